/-! ===== printed by tools/gen.py ===== -/
def wX6_readLogs_15 (Q : Mm → Prop) : Nat → Int → Mm → Prop
  | 0, _, _ => False
  | f + 1, v2, M => (inR v2) ∧
    (inR (M 15 0)) ∧
    (if v2 < (M 15 0) then
      (0 ≤ v2 ∧ v2 < 24) ∧
      (inR (M 16 v2)) ∧
      (inR (M 72 1)) ∧
      (if (M 16 v2) = (M 72 1) then
        (inR (M 22 v2)) ∧
        (if (M 22 v2) = 0 then
          Bv (wX6_readFuel v2 (M 17 v2) (M 18 v2) (M 19 v2) M) (fun M13 =>
          (wX6_readLogs_15 Q f) (v2 + 1) M13)
        else
          Bv (wX6_keepReading v2 (M 18 v2) (M 19 v2) M) (fun M17 =>
          (wX6_readLogs_15 Q f) (v2 + 1) M17))
      else
        (wX6_readLogs_15 Q f) (v2 + 1) M)
    else
      Q M)
set_option maxHeartbeats 4000000 in
theorem s_wX6_readLogs_15 {Γ : Cx} {h : Nat} (hΓ : Ok Γ cX6_readLogs RX6 3 h 0 0) (hh : 3 ≤ h) (hr : (cxm Γ).sig.returnType = none) {Q : Mm → Prop}   : ∀ (f : Nat) (v2 : Int) (M : Mm), wX6_readLogs_15 Q  f v2 M → Wa Γ 3 (Kf Γ (QV Q) 0 0) 0 0 15 [(0, aR 72), (1, aR 15), (2, aI v2)] [] (NC, RF, M) := by
  intro f
  induction f with
  | zero => intro v2 M h; exact h.elim
  | succ f ih =>
    intro v2 M h
    unfold wX6_readLogs_15 at h
    refine a_iload_n hΓ 2 dX6_readLogs_15 rfl rfl ?_
    refine a_aload_n hΓ 1 dX6_readLogs_16 rfl rfl ?_
    refine n_getI (x := (M 15 0)) hΓ fl_RX6_108 cl_4 kd_15 lz_15 dX6_readLogs_17 (Or.inl ft_4_0) rfl ?_
    obtain ⟨g1, h⟩ := h
    obtain ⟨g2, h⟩ := h
    refine a_icmp_ge (tgt := 97) hΓ g1 g2 dX6_readLogs_20 (by decide) (fun c3 => ?_) (fun c3 => ?_)
    · rw [if_pos c3] at h
      refine a_aload_n hΓ 1 dX6_readLogs_23 rfl rfl ?_
      refine n_getR hΓ fl_RX6_111 cl_4 kd_15 lz_15 dX6_readLogs_24 ft_4_1 rf_15_1 ?_
      refine a_iload_n hΓ 2 dX6_readLogs_27 rfl rfl ?_
      obtain ⟨g4, h⟩ := h
      refine n_iald (x := (M 16 v2)) hΓ dX6_readLogs_28 kd_16 lz_16 g4 rfl ?_
      refine a_aload_n hΓ 0 dX6_readLogs_29 rfl rfl ?_
      refine n_getI (x := (M 72 1)) hΓ fl_RX6_47 cl_6 kd_72 lz_72 dX6_readLogs_30 (Or.inl ft_6_1) rfl ?_
      obtain ⟨g5, h⟩ := h
      obtain ⟨g6, h⟩ := h
      refine a_icmp_eq (tgt := 39) hΓ g5 g6 dX6_readLogs_33 (by decide) (fun c7 => ?_) (fun c7 => ?_)
      · rw [if_pos c7] at h
        refine a_aload_n hΓ 1 dX6_readLogs_39 rfl rfl ?_
        refine n_getR hΓ fl_RX6_112 cl_4 kd_15 lz_15 dX6_readLogs_40 ft_4_7 rf_15_7 ?_
        refine a_iload_n hΓ 2 dX6_readLogs_43 rfl rfl ?_
        refine n_bald (x := (M 22 v2)) hΓ dX6_readLogs_44 kd_22 (Or.inl rfl) lz_22 g4 rfl ?_
        obtain ⟨g8, h⟩ := h
        refine a_if_eq (tgt := 68) hΓ g8 dX6_readLogs_45 (by decide) (fun c9 => ?_) (fun c9 => ?_)
        · rw [if_pos c9] at h
          refine a_aload_n hΓ 0 dX6_readLogs_68 rfl rfl ?_
          refine a_iload_n hΓ 2 dX6_readLogs_69 rfl rfl ?_
          refine a_aload_n hΓ 1 dX6_readLogs_70 rfl rfl ?_
          refine n_getR hΓ fl_RX6_125 cl_4 kd_15 lz_15 dX6_readLogs_71 ft_4_2 rf_15_2 ?_
          refine a_iload_n hΓ 2 dX6_readLogs_74 rfl rfl ?_
          refine n_iald (x := (M 17 v2)) hΓ dX6_readLogs_75 kd_17 lz_17 g4 rfl ?_
          refine a_aload_n hΓ 1 dX6_readLogs_76 rfl rfl ?_
          refine n_getR hΓ fl_RX6_115 cl_4 kd_15 lz_15 dX6_readLogs_77 ft_4_3 rf_15_3 ?_
          refine a_iload_n hΓ 2 dX6_readLogs_80 rfl rfl ?_
          refine n_iald (x := (M 18 v2)) hΓ dX6_readLogs_81 kd_18 lz_18 g4 rfl ?_
          refine a_aload_n hΓ 1 dX6_readLogs_82 rfl rfl ?_
          refine n_getR hΓ fl_RX6_118 cl_4 kd_15 lz_15 dX6_readLogs_83 ft_4_4 rf_15_4 ?_
          refine a_iload_n hΓ 2 dX6_readLogs_86 rfl rfl ?_
          refine n_iald (x := (M 19 v2)) hΓ dX6_readLogs_87 kd_19 lz_19 g4 rfl ?_
          obtain ⟨P10, q11, h⟩ := h
          refine n_callV (c := 72) (av := [aI v2, aI (M 17 v2), aI (M 18 v2), aI (M 19 v2)]) (st := []) hΓ (ct_wX6_readFuel _ _ v2 (M 17 v2) (M 18 v2) (M 19 v2) M P10 q11) my_X6_readFuel ml_RX6_126 ni_X6_readFuel kd_72 rfl lz_72 rfl (Nat.le_trans (by decide) hh) (by decide) (Nat.le_of_ble_eq_true rfl) rfl dX6_readLogs_88 (fun v Z' hq => ?_)
          obtain ⟨M13, rfl, rfl, hq⟩ := hq
          have h := h M13 hq
          dsimp only at h
          refine a_iinc (ls' := [(2, aI (v2 + 1)), (0, aR 72), (1, aR 15)]) hΓ 2 dX6_readLogs_91 rfl (by decide) rfl ?_
          refine a_goto (tgt := 15) hΓ dX6_readLogs_94 (by decide) ?_
          refine a_sub (ls' := [(0, aR 72), (1, aR 15), (2, aI (v2 + 1))]) [1, 2, 0] rfl ?_
          exact ih (v2 + 1) M13 h
        · rw [if_neg c9] at h
          refine a_aload_n hΓ 0 dX6_readLogs_48 rfl rfl ?_
          refine a_iload_n hΓ 2 dX6_readLogs_49 rfl rfl ?_
          refine a_aload_n hΓ 1 dX6_readLogs_50 rfl rfl ?_
          refine n_getR hΓ fl_RX6_115 cl_4 kd_15 lz_15 dX6_readLogs_51 ft_4_3 rf_15_3 ?_
          refine a_iload_n hΓ 2 dX6_readLogs_54 rfl rfl ?_
          refine n_iald (x := (M 18 v2)) hΓ dX6_readLogs_55 kd_18 lz_18 g4 rfl ?_
          refine a_aload_n hΓ 1 dX6_readLogs_56 rfl rfl ?_
          refine n_getR hΓ fl_RX6_118 cl_4 kd_15 lz_15 dX6_readLogs_57 ft_4_4 rf_15_4 ?_
          refine a_iload_n hΓ 2 dX6_readLogs_60 rfl rfl ?_
          refine n_iald (x := (M 19 v2)) hΓ dX6_readLogs_61 kd_19 lz_19 g4 rfl ?_
          obtain ⟨P14, q15, h⟩ := h
          refine n_callV (c := 72) (av := [aI v2, aI (M 18 v2), aI (M 19 v2)]) (st := []) hΓ (ct_wX6_keepReading _ _ v2 (M 18 v2) (M 19 v2) M P14 q15) my_X6_keepReading ml_RX6_121 ni_X6_keepReading kd_72 rfl lz_72 rfl (Nat.le_trans (by decide) hh) (by decide) (Nat.le_of_ble_eq_true rfl) rfl dX6_readLogs_62 (fun v Z' hq => ?_)
          obtain ⟨M17, rfl, rfl, hq⟩ := hq
          have h := h M17 hq
          dsimp only at h
          refine a_goto (tgt := 91) hΓ dX6_readLogs_65 (by decide) ?_
          refine a_iinc (ls' := [(2, aI (v2 + 1)), (0, aR 72), (1, aR 15)]) hΓ 2 dX6_readLogs_91 rfl (by decide) rfl ?_
          refine a_goto (tgt := 15) hΓ dX6_readLogs_94 (by decide) ?_
          refine a_sub (ls' := [(0, aR 72), (1, aR 15), (2, aI (v2 + 1))]) [1, 2, 0] rfl ?_
          exact ih (v2 + 1) M17 h
      · rw [if_neg c7] at h
        refine a_goto (tgt := 91) hΓ dX6_readLogs_36 (by decide) ?_
        refine a_iinc (ls' := [(2, aI (v2 + 1)), (0, aR 72), (1, aR 15)]) hΓ 2 dX6_readLogs_91 rfl (by decide) rfl ?_
        refine a_goto (tgt := 15) hΓ dX6_readLogs_94 (by decide) ?_
        refine a_sub (ls' := [(0, aR 72), (1, aR 15), (2, aI (v2 + 1))]) [1, 2, 0] rfl ?_
        exact ih (v2 + 1) M h
    · rw [if_neg c3] at h
      exact a_vret hΓ hr dX6_readLogs_97 ⟨_, rfl, rfl, h⟩
def wX6_readLogs  (M : Mm) (Q : Mm → Prop) : Prop :=
    ∃ n, wX6_readLogs_15 Q n 0 (up M 72 8 0)
set_option maxHeartbeats 4000000 in
theorem s_wX6_readLogs {Γ : Cx} {h : Nat} (hΓ : Ok Γ cX6_readLogs RX6 3 h 0 0) (hh : 3 ≤ h) (hr : (cxm Γ).sig.returnType = none) {Q : Mm → Prop}  (M : Mm) (h : wX6_readLogs  M Q) : Wa Γ 3 (Kf Γ (QV Q) 0 0) 0 0 0 [(0, aR 72)] [] (NC, RF, M) := by
  unfold wX6_readLogs at h
  refine a_aload_n hΓ 0 dX6_readLogs_0 rfl rfl ?_
  refine n_getR hΓ fl_RX6_43 cl_6 kd_72 lz_72 dX6_readLogs_1 ft_6_0 rf_72_0 ?_
  refine n_getR hΓ fl_RX6_101 cl_0 kd_1 lz_1 dX6_readLogs_4 ft_0_14 rf_1_14 ?_
  refine a_astore_n (ls' := [(1, aR 15), (0, aR 72)]) hΓ dX6_readLogs_7 rfl (by decide) rfl ?_
  refine a_aload_n hΓ 1 dX6_readLogs_8 rfl rfl ?_
  refine a_iconst hΓ dX6_readLogs_9 ?_
  refine n_putI (j := 8) hΓ fl_RX6_105 cl_6 nf_6_8 kd_72 lz_72 dX6_readLogs_10 (Or.inl ft_6_8) rfl ?_
  refine a_iconst hΓ dX6_readLogs_13 ?_
  refine a_istore_n (ls' := [(2, aI 0), (1, aR 15), (0, aR 72)]) hΓ dX6_readLogs_14 rfl (by decide) rfl ?_
  refine a_sub (ls' := [(0, aR 72), (1, aR 15), (2, aI 0)]) [2, 1, 0] rfl ?_
  obtain ⟨f1, h⟩ := h
  exact s_wX6_readLogs_15 hΓ (Nat.le_trans (by decide) hh) hr  f1 0 (up M 72 8 0) h
theorem ct_wX6_readLogs (l : Launch) (g : Gp)  (M : Mm) (Q : Mm → Prop) (h : wX6_readLogs  M Q) : Ct l g yX6_readLogs cX6_readLogs 3 none 3 0 0 [aR 72] (NC, RF, M) (QV Q) :=
  ct_of (by decide) (Nat.le_of_ble_eq_true rfl) (fun Γ hg hl hr _ hΓ => by subst hg; subst hl; exact s_wX6_readLogs hΓ (by decide) hr  M h)
def wX6_load (v1 : Int) (M : Mm) (Q : Mm → Prop) : Prop :=
    Bv (wX6_findLegs (up M 72 1 v1)) (fun M4 =>
    Bv (wX6_findLaws M4) (fun M8 =>
    Bv (wX6_findCleanings M8) (fun M12 =>
    Bv (wX6_readLogs M12) (fun M16 =>
    Q M16))))
set_option maxHeartbeats 4000000 in
theorem s_wX6_load {Γ : Cx} {h : Nat} (hΓ : Ok Γ cX6_load RX6 2 h 0 0) (hh : 4 ≤ h) (hr : (cxm Γ).sig.returnType = none) {Q : Mm → Prop} (v1 : Int) (M : Mm) (h : wX6_load v1 M Q) : Wa Γ 2 (Kf Γ (QV Q) 0 0) 0 0 0 [(0, aR 72), (1, aI v1)] [] (NC, RF, M) := by
  unfold wX6_load at h
  refine a_aload_n hΓ 0 dX6_load_0 rfl rfl ?_
  refine a_iload_n hΓ 1 dX6_load_1 rfl rfl ?_
  refine n_putI (j := 1) hΓ fl_RX6_47 cl_6 nf_6_1 kd_72 lz_72 dX6_load_2 (Or.inl ft_6_1) rfl ?_
  refine a_aload_n hΓ 0 dX6_load_5 rfl rfl ?_
  obtain ⟨P1, q2, h⟩ := h
  refine n_callV (c := 72) (av := []) (st := []) hΓ (ct_wX6_findLegs _ _  (up M 72 1 v1) P1 q2) my_X6_findLegs ml_RX6_51 ni_X6_findLegs kd_72 rfl lz_72 rfl (Nat.le_trans (by decide) hh) (by decide) (Nat.le_of_ble_eq_true rfl) rfl dX6_load_6 (fun v Z' hq => ?_)
  obtain ⟨M4, rfl, rfl, hq⟩ := hq
  have h := h M4 hq
  dsimp only at h
  refine a_aload_n hΓ 0 dX6_load_9 rfl rfl ?_
  obtain ⟨P5, q6, h⟩ := h
  refine n_callV (c := 72) (av := []) (st := []) hΓ (ct_wX6_findLaws _ _  M4 P5 q6) my_X6_findLaws ml_RX6_54 ni_X6_findLaws kd_72 rfl lz_72 rfl (Nat.le_trans (by decide) hh) (by decide) (Nat.le_of_ble_eq_true rfl) rfl dX6_load_10 (fun v Z' hq => ?_)
  obtain ⟨M8, rfl, rfl, hq⟩ := hq
  have h := h M8 hq
  dsimp only at h
  refine a_aload_n hΓ 0 dX6_load_13 rfl rfl ?_
  obtain ⟨P9, q10, h⟩ := h
  refine n_callV (c := 72) (av := []) (st := []) hΓ (ct_wX6_findCleanings _ _  M8 P9 q10) my_X6_findCleanings ml_RX6_57 ni_X6_findCleanings kd_72 rfl lz_72 rfl (Nat.le_trans (by decide) hh) (by decide) (Nat.le_of_ble_eq_true rfl) rfl dX6_load_14 (fun v Z' hq => ?_)
  obtain ⟨M12, rfl, rfl, hq⟩ := hq
  have h := h M12 hq
  dsimp only at h
  refine a_aload_n hΓ 0 dX6_load_17 rfl rfl ?_
  obtain ⟨P13, q14, h⟩ := h
  refine n_callV (c := 72) (av := []) (st := []) hΓ (ct_wX6_readLogs _ _  M12 P13 q14) my_X6_readLogs ml_RX6_60 ni_X6_readLogs kd_72 rfl lz_72 rfl (Nat.le_trans (by decide) hh) (by decide) (Nat.le_of_ble_eq_true rfl) rfl dX6_load_18 (fun v Z' hq => ?_)
  obtain ⟨M16, rfl, rfl, hq⟩ := hq
  have h := h M16 hq
  dsimp only at h
  exact a_vret hΓ hr dX6_load_21 ⟨_, rfl, rfl, h⟩
theorem ct_wX6_load (l : Launch) (g : Gp) (v1 : Int) (M : Mm) (Q : Mm → Prop) (h : wX6_load v1 M Q) : Ct l g yX6_load cX6_load 2 none 4 0 0 [aR 72, aI v1] (NC, RF, M) (QV Q) :=
  ct_of (by decide) (Nat.le_of_ble_eq_true rfl) (fun Γ hg hl hr _ hΓ => by subst hg; subst hl; exact s_wX6_load hΓ (by decide) hr v1 M h)
def wX11_addLog (v1 : Int) (v2 : Int) (v3 : Int) (v4 : Int) (v5 : Int) (v6 : Int) (v7 : Int) (M : Mm) (Q : Int → Mm → Prop) : Prop :=
    (inR (M 15 0)) ∧
    (if (M 15 0) < 24 then
      (0 ≤ (M 15 0) ∧ (M 15 0) < 24) ∧
      (v7 = 0 ∨ v7 = 1) ∧
      Bd (wX11_accept (M 15 0) (up (up (up (up (up (up (up (up (up M 16 (M 15 0) v1) 17 (M 15 0) v2) 18 (M 15 0) v3) 19 (M 15 0) v4) 20 (M 15 0) v5) 21 (M 15 0) v6) 22 (M 15 0) v7) 23 (M 15 0) 0) 15 0 ((M 15 0) + 1))) (fun r7 M8 =>
      Q r7 M8)
    else
      Bd (wX11_refuse (-5) M) (fun r11 M12 =>
      Q r11 M12))
set_option maxHeartbeats 4000000 in
theorem s_wX11_addLog {Γ : Cx} {h : Nat} (hΓ : Ok Γ cX11_addLog RX11 10 h 0 0) (hh : 2 ≤ h) (hr : (cxm Γ).sig.returnType = (some .int)) {Q : Int → Mm → Prop} (v1 : Int) (v2 : Int) (v3 : Int) (v4 : Int) (v5 : Int) (v6 : Int) (v7 : Int) (M : Mm) (h : wX11_addLog v1 v2 v3 v4 v5 v6 v7 M Q) : Wa Γ 10 (Kf Γ (QI Q) 0 0) 0 0 0 [(0, aR 0), (1, aI v1), (2, aI v2), (3, aI v3), (4, aI v4), (5, aI v5), (6, aI v6), (7, aI v7)] [] (NC, RF, M) := by
  unfold wX11_addLog at h
  refine a_aload_n hΓ 0 dX11_addLog_0 rfl rfl ?_
  refine n_getR hΓ fl_RX11_10 cl_11 kd_0 lz_0 dX11_addLog_1 ft_11_0 rf_0_0 ?_
  refine n_getR hΓ fl_RX11_153 cl_0 kd_1 lz_1 dX11_addLog_4 ft_0_14 rf_1_14 ?_
  refine a_astore (ls' := [(8, aR 15), (0, aR 0), (1, aI v1), (2, aI v2), (3, aI v3), (4, aI v4), (5, aI v5), (6, aI v6), (7, aI v7)]) hΓ dX11_addLog_7 (by decide) rfl ?_
  refine a_aload hΓ 0 dX11_addLog_9 rfl ?_
  refine n_getI (x := (M 15 0)) hΓ fl_RX11_306 cl_4 kd_15 lz_15 dX11_addLog_11 (Or.inl ft_4_0) rfl ?_
  refine a_bipush hΓ dX11_addLog_14 (by decide) ?_
  obtain ⟨g1, h⟩ := h
  refine a_icmp_lt (tgt := 26) hΓ g1 (inRl (by decide)) dX11_addLog_16 (by decide) (fun c2 => ?_) (fun c2 => ?_)
  · rw [if_pos c2] at h
    refine a_aload hΓ 0 dX11_addLog_26 rfl ?_
    refine n_getI (x := (M 15 0)) hΓ fl_RX11_306 cl_4 kd_15 lz_15 dX11_addLog_28 (Or.inl ft_4_0) rfl ?_
    refine a_istore (ls' := [(9, aI (M 15 0)), (8, aR 15), (0, aR 0), (1, aI v1), (2, aI v2), (3, aI v3), (4, aI v4), (5, aI v5), (6, aI v6), (7, aI v7)]) hΓ dX11_addLog_31 (by decide) rfl ?_
    refine a_aload hΓ 1 dX11_addLog_33 rfl ?_
    refine n_getR hΓ fl_RX11_157 cl_4 kd_15 lz_15 dX11_addLog_35 ft_4_1 rf_15_1 ?_
    refine a_iload hΓ 0 dX11_addLog_38 rfl ?_
    refine a_iload_n hΓ 3 dX11_addLog_40 rfl rfl ?_
    obtain ⟨g3, h⟩ := h
    refine a_iast hΓ dX11_addLog_41 kd_16 lz_16 g3 ?_
    refine a_aload hΓ 1 dX11_addLog_42 rfl ?_
    refine n_getR hΓ fl_RX11_162 cl_4 kd_15 lz_15 dX11_addLog_44 ft_4_2 rf_15_2 ?_
    refine a_iload hΓ 0 dX11_addLog_47 rfl ?_
    refine a_iload_n hΓ 4 dX11_addLog_49 rfl rfl ?_
    refine a_iast hΓ dX11_addLog_50 kd_17 lz_17 g3 ?_
    refine a_aload hΓ 1 dX11_addLog_51 rfl ?_
    refine n_getR hΓ fl_RX11_324 cl_4 kd_15 lz_15 dX11_addLog_53 ft_4_3 rf_15_3 ?_
    refine a_iload hΓ 0 dX11_addLog_56 rfl ?_
    refine a_iload_n hΓ 5 dX11_addLog_58 rfl rfl ?_
    refine a_iast hΓ dX11_addLog_59 kd_18 lz_18 g3 ?_
    refine a_aload hΓ 1 dX11_addLog_60 rfl ?_
    refine n_getR hΓ fl_RX11_336 cl_4 kd_15 lz_15 dX11_addLog_62 ft_4_4 rf_15_4 ?_
    refine a_iload hΓ 0 dX11_addLog_65 rfl ?_
    refine a_iload hΓ 6 dX11_addLog_67 rfl ?_
    refine a_iast hΓ dX11_addLog_69 kd_19 lz_19 g3 ?_
    refine a_aload hΓ 1 dX11_addLog_70 rfl ?_
    refine n_getR hΓ fl_RX11_171 cl_4 kd_15 lz_15 dX11_addLog_72 ft_4_5 rf_15_5 ?_
    refine a_iload hΓ 0 dX11_addLog_75 rfl ?_
    refine a_iload hΓ 7 dX11_addLog_77 rfl ?_
    refine a_iast hΓ dX11_addLog_79 kd_20 lz_20 g3 ?_
    refine a_aload hΓ 1 dX11_addLog_80 rfl ?_
    refine n_getR hΓ fl_RX11_174 cl_4 kd_15 lz_15 dX11_addLog_82 ft_4_6 rf_15_6 ?_
    refine a_iload hΓ 0 dX11_addLog_85 rfl ?_
    refine a_iload hΓ 8 dX11_addLog_87 rfl ?_
    refine a_iast hΓ dX11_addLog_89 kd_21 lz_21 g3 ?_
    refine a_aload hΓ 1 dX11_addLog_90 rfl ?_
    refine n_getR hΓ fl_RX11_339 cl_4 kd_15 lz_15 dX11_addLog_92 ft_4_7 rf_15_7 ?_
    refine a_iload hΓ 0 dX11_addLog_95 rfl ?_
    refine a_iload hΓ 9 dX11_addLog_97 rfl ?_
    obtain ⟨g4, h⟩ := h
    refine a_zast hΓ rfl g4 dX11_addLog_99 kd_22 lz_22 g3 ?_
    refine a_aload hΓ 1 dX11_addLog_100 rfl ?_
    refine n_getR hΓ fl_RX11_177 cl_4 kd_15 lz_15 dX11_addLog_102 ft_4_8 rf_15_8 ?_
    refine a_iload hΓ 0 dX11_addLog_105 rfl ?_
    refine a_iconst hΓ dX11_addLog_107 ?_
    refine a_zast hΓ rfl (Or.inl rfl) dX11_addLog_108 kd_23 lz_23 g3 ?_
    refine a_aload hΓ 1 dX11_addLog_109 rfl ?_
    refine a_dupR hΓ dX11_addLog_111 ?_
    refine n_getI (x := (M 15 0)) hΓ fl_RX11_306 cl_4 kd_15 lz_15 dX11_addLog_112 (Or.inl ft_4_0) rfl ?_
    refine a_iconst hΓ dX11_addLog_115 ?_
    refine a_iadd hΓ dX11_addLog_116 ?_
    refine n_putI (j := 0) hΓ fl_RX11_306 cl_4 nf_4_0 kd_15 lz_15 dX11_addLog_117 (Or.inl ft_4_0) rfl ?_
    refine a_aload_n hΓ 2 dX11_addLog_120 rfl rfl ?_
    refine a_iload hΓ 0 dX11_addLog_121 rfl ?_
    obtain ⟨P5, q6, h⟩ := h
    refine n_callV (c := 0) (av := [aI (M 15 0)]) (st := []) hΓ (ct_wX11_accept _ _ (M 15 0) (up (up (up (up (up (up (up (up (up M 16 (M 15 0) v1) 17 (M 15 0) v2) 18 (M 15 0) v3) 19 (M 15 0) v4) 20 (M 15 0) v5) 21 (M 15 0) v6) 22 (M 15 0) v7) 23 (M 15 0) 0) 15 0 ((M 15 0) + 1)) P5 q6) my_X11_accept ml_RX11_91 ni_X11_accept kd_0 rfl lz_0 rfl (Nat.le_trans (by decide) hh) (by decide) (Nat.le_of_ble_eq_true rfl) rfl dX11_addLog_123 (fun v Z' hq => ?_)
    obtain ⟨r7, M8, rfl, rfl, hq⟩ := hq
    have h := h r7 M8 hq
    dsimp only at h
    exact a_iret hΓ hr dX11_addLog_126 ⟨_, _, rfl, rfl, h⟩
  · rw [if_neg c2] at h
    refine a_aload_n hΓ 1 dX11_addLog_19 rfl rfl ?_
    refine a_bipush hΓ dX11_addLog_20 (by decide) ?_
    obtain ⟨P9, q10, h⟩ := h
    refine n_callV (c := 0) (av := [aI (-5)]) (st := []) hΓ (ct_wX11_refuse _ _ (-5) M P9 q10) my_X11_refuse ml_RX11_83 ni_X11_refuse kd_0 rfl lz_0 rfl (Nat.le_trans (by decide) hh) (by decide) (Nat.le_of_ble_eq_true rfl) rfl dX11_addLog_22 (fun v Z' hq => ?_)
    obtain ⟨r11, M12, rfl, rfl, hq⟩ := hq
    have h := h r11 M12 hq
    dsimp only at h
    exact a_iret hΓ hr dX11_addLog_25 ⟨_, _, rfl, rfl, h⟩
theorem ct_wX11_addLog (l : Launch) (g : Gp) (v1 : Int) (v2 : Int) (v3 : Int) (v4 : Int) (v5 : Int) (v6 : Int) (v7 : Int) (M : Mm) (Q : Int → Mm → Prop) (h : wX11_addLog v1 v2 v3 v4 v5 v6 v7 M Q) : Ct l g yX11_addLog cX11_addLog 10 (some .int) 2 0 0 [aR 0, aI v1, aI v2, aI v3, aI v4, aI v5, aI v6, aI v7] (NC, RF, M) (QI Q) :=
  ct_of (by decide) (Nat.le_of_ble_eq_true rfl) (fun Γ hg hl hr _ hΓ => by subst hg; subst hl; exact s_wX11_addLog hΓ (by decide) hr v1 v2 v3 v4 v5 v6 v7 M h)
def wX11_log (v1 : Int) (v2 : Int) (v3 : Int) (v4 : Int) (v5 : Int) (v6 : Int) (M : Mm) (Q : Int → Mm → Prop) : Prop :=
    Bd (wX11_isDay v2 M) (fun r3 M4 =>
    (inR r3) ∧
    (if r3 = 0 then
      Bd (wX11_refuse (-1) M4) (fun r9 M10 =>
      Q r9 M10)
    else
      Bd (wX11_within v3 0 100000 M4) (fun r13 M14 =>
      (inR r13) ∧
      (if r13 = 0 then
        Bd (wX11_refuse (-1) M14) (fun r19 M20 =>
        Q r19 M20)
      else
        Bd (wX11_within v4 0 1000 M14) (fun r23 M24 =>
        (inR r23) ∧
        (if r23 = 0 then
          Bd (wX11_refuse (-1) M24) (fun r29 M30 =>
          Q r29 M30)
        else
          Bd (wX11_within v5 1 100 M24) (fun r33 M34 =>
          (inR r33) ∧
          (if r33 = 0 then
            Bd (wX11_refuse (-1) M34) (fun r39 M40 =>
            Q r39 M40)
          else
            Bd (wX11_isDay v6 M34) (fun r43 M44 =>
            (inR r43) ∧
            (if r43 = 0 then
              Bd (wX11_refuse (-1) M44) (fun r49 M50 =>
              Q r49 M50)
            else
              Bd (wX11_isShip v1 M44) (fun r53 M54 =>
              (inR r53) ∧
              (if r53 = 0 then
                Bd (wX11_refuse (-2) M54) (fun r59 M60 =>
                Q r59 M60)
              else
                Bv (wX6_load v1 M54) (fun M64 =>
                (0 ≤ v2 ∧ v2 < 120) ∧
                (inR (M64 74 v2)) ∧
                (if (M64 74 v2) = 0 then
                  Bd (wX11_refuse (-3) M64) (fun r70 M71 =>
                  Q r70 M71)
                else
                  Bd (wX11_addLog v1 v2 v3 v4 v5 v6 0 M64) (fun r74 M75 =>
                  Q r74 M75)))))))))))))))
set_option maxHeartbeats 4000000 in
theorem s_wX11_log {Γ : Cx} {h : Nat} (hΓ : Ok Γ cX11_log RX11 7 h 0 0) (hh : 5 ≤ h) (hr : (cxm Γ).sig.returnType = (some .int)) {Q : Int → Mm → Prop} (v1 : Int) (v2 : Int) (v3 : Int) (v4 : Int) (v5 : Int) (v6 : Int) (M : Mm) (h : wX11_log v1 v2 v3 v4 v5 v6 M Q) : Wa Γ 7 (Kf Γ (QI Q) 0 0) 0 0 0 [(0, aR 0), (1, aI v1), (2, aI v2), (3, aI v3), (4, aI v4), (5, aI v5), (6, aI v6)] [] (NC, RF, M) := by
  unfold wX11_log at h
  refine a_iload_n hΓ 2 dX11_log_0 rfl rfl ?_
  obtain ⟨P1, q2, h⟩ := h
  refine n_callS (av := [aI v2]) (st := []) hΓ (ct_wX11_isDay _ _ v2 M P1 q2) my_X11_isDay ml_RX11_102 rfl (Nat.le_trans (by decide) hh) (by decide) (Nat.le_of_ble_eq_true rfl) rfl dX11_log_1 (fun v Z' hq => ?_)
  obtain ⟨r3, M4, rfl, rfl, hq⟩ := hq
  have h := h r3 M4 hq
  dsimp only at h
  obtain ⟨g5, h⟩ := h
  refine a_if_eq (tgt := 29) hΓ g5 dX11_log_4 (by decide) (fun c6 => ?_) (fun c6 => ?_)
  · rw [if_pos c6] at h
    refine a_aload_n hΓ 0 dX11_log_29 rfl rfl ?_
    refine a_iconst hΓ dX11_log_30 ?_
    obtain ⟨P7, q8, h⟩ := h
    refine n_callV (c := 0) (av := [aI (-1)]) (st := []) hΓ (ct_wX11_refuse _ _ (-1) M4 P7 q8) my_X11_refuse ml_RX11_83 ni_X11_refuse kd_0 rfl lz_0 rfl (Nat.le_trans (by decide) hh) (by decide) (Nat.le_of_ble_eq_true rfl) rfl dX11_log_31 (fun v Z' hq => ?_)
    obtain ⟨r9, M10, rfl, rfl, hq⟩ := hq
    have h := h r9 M10 hq
    dsimp only at h
    exact a_iret hΓ hr dX11_log_34 ⟨_, _, rfl, rfl, h⟩
  · rw [if_neg c6] at h
    refine a_iload_n hΓ 3 dX11_log_7 rfl rfl ?_
    refine a_iconst hΓ dX11_log_8 ?_
    refine a_ldc hΓ gc_RX11_132 dX11_log_9 ?_
    obtain ⟨P11, q12, h⟩ := h
    refine n_callS (av := [aI v3, aI 0, aI 100000]) (st := []) hΓ (ct_wX11_within _ _ v3 0 100000 M4 P11 q12) my_X11_within ml_RX11_79 rfl (Nat.le_trans (by decide) hh) (by decide) (Nat.le_of_ble_eq_true rfl) rfl dX11_log_11 (fun v Z' hq => ?_)
    obtain ⟨r13, M14, rfl, rfl, hq⟩ := hq
    have h := h r13 M14 hq
    dsimp only at h
    obtain ⟨g15, h⟩ := h
    refine a_if_eq (tgt := 29) hΓ g15 dX11_log_14 (by decide) (fun c16 => ?_) (fun c16 => ?_)
    · rw [if_pos c16] at h
      refine a_aload_n hΓ 0 dX11_log_29 rfl rfl ?_
      refine a_iconst hΓ dX11_log_30 ?_
      obtain ⟨P17, q18, h⟩ := h
      refine n_callV (c := 0) (av := [aI (-1)]) (st := []) hΓ (ct_wX11_refuse _ _ (-1) M14 P17 q18) my_X11_refuse ml_RX11_83 ni_X11_refuse kd_0 rfl lz_0 rfl (Nat.le_trans (by decide) hh) (by decide) (Nat.le_of_ble_eq_true rfl) rfl dX11_log_31 (fun v Z' hq => ?_)
      obtain ⟨r19, M20, rfl, rfl, hq⟩ := hq
      have h := h r19 M20 hq
      dsimp only at h
      exact a_iret hΓ hr dX11_log_34 ⟨_, _, rfl, rfl, h⟩
    · rw [if_neg c16] at h
      refine a_iload hΓ 4 dX11_log_17 rfl ?_
      refine a_iconst hΓ dX11_log_19 ?_
      refine a_sipush hΓ dX11_log_20 (by decide) ?_
      obtain ⟨P21, q22, h⟩ := h
      refine n_callS (av := [aI v4, aI 0, aI 1000]) (st := []) hΓ (ct_wX11_within _ _ v4 0 1000 M14 P21 q22) my_X11_within ml_RX11_79 rfl (Nat.le_trans (by decide) hh) (by decide) (Nat.le_of_ble_eq_true rfl) rfl dX11_log_23 (fun v Z' hq => ?_)
      obtain ⟨r23, M24, rfl, rfl, hq⟩ := hq
      have h := h r23 M24 hq
      dsimp only at h
      obtain ⟨g25, h⟩ := h
      refine a_if_ne (tgt := 35) hΓ g25 dX11_log_26 (by decide) (fun c26 => ?_) (fun c26 => ?_)
      · rw [if_pos c26] at h
        refine a_aload_n hΓ 0 dX11_log_29 rfl rfl ?_
        refine a_iconst hΓ dX11_log_30 ?_
        obtain ⟨P27, q28, h⟩ := h
        refine n_callV (c := 0) (av := [aI (-1)]) (st := []) hΓ (ct_wX11_refuse _ _ (-1) M24 P27 q28) my_X11_refuse ml_RX11_83 ni_X11_refuse kd_0 rfl lz_0 rfl (Nat.le_trans (by decide) hh) (by decide) (Nat.le_of_ble_eq_true rfl) rfl dX11_log_31 (fun v Z' hq => ?_)
        obtain ⟨r29, M30, rfl, rfl, hq⟩ := hq
        have h := h r29 M30 hq
        dsimp only at h
        exact a_iret hΓ hr dX11_log_34 ⟨_, _, rfl, rfl, h⟩
      · rw [if_neg c26] at h
        refine a_iload hΓ 5 dX11_log_35 rfl ?_
        refine a_iconst hΓ dX11_log_37 ?_
        refine a_bipush hΓ dX11_log_38 (by decide) ?_
        obtain ⟨P31, q32, h⟩ := h
        refine n_callS (av := [aI v5, aI 1, aI 100]) (st := []) hΓ (ct_wX11_within _ _ v5 1 100 M24 P31 q32) my_X11_within ml_RX11_79 rfl (Nat.le_trans (by decide) hh) (by decide) (Nat.le_of_ble_eq_true rfl) rfl dX11_log_40 (fun v Z' hq => ?_)
        obtain ⟨r33, M34, rfl, rfl, hq⟩ := hq
        have h := h r33 M34 hq
        dsimp only at h
        obtain ⟨g35, h⟩ := h
        refine a_if_eq (tgt := 54) hΓ g35 dX11_log_43 (by decide) (fun c36 => ?_) (fun c36 => ?_)
        · rw [if_pos c36] at h
          refine a_aload_n hΓ 0 dX11_log_54 rfl rfl ?_
          refine a_iconst hΓ dX11_log_55 ?_
          obtain ⟨P37, q38, h⟩ := h
          refine n_callV (c := 0) (av := [aI (-1)]) (st := []) hΓ (ct_wX11_refuse _ _ (-1) M34 P37 q38) my_X11_refuse ml_RX11_83 ni_X11_refuse kd_0 rfl lz_0 rfl (Nat.le_trans (by decide) hh) (by decide) (Nat.le_of_ble_eq_true rfl) rfl dX11_log_56 (fun v Z' hq => ?_)
          obtain ⟨r39, M40, rfl, rfl, hq⟩ := hq
          have h := h r39 M40 hq
          dsimp only at h
          exact a_iret hΓ hr dX11_log_59 ⟨_, _, rfl, rfl, h⟩
        · rw [if_neg c36] at h
          refine a_iload hΓ 6 dX11_log_46 rfl ?_
          obtain ⟨P41, q42, h⟩ := h
          refine n_callS (av := [aI v6]) (st := []) hΓ (ct_wX11_isDay _ _ v6 M34 P41 q42) my_X11_isDay ml_RX11_102 rfl (Nat.le_trans (by decide) hh) (by decide) (Nat.le_of_ble_eq_true rfl) rfl dX11_log_48 (fun v Z' hq => ?_)
          obtain ⟨r43, M44, rfl, rfl, hq⟩ := hq
          have h := h r43 M44 hq
          dsimp only at h
          obtain ⟨g45, h⟩ := h
          refine a_if_ne (tgt := 60) hΓ g45 dX11_log_51 (by decide) (fun c46 => ?_) (fun c46 => ?_)
          · rw [if_pos c46] at h
            refine a_aload_n hΓ 0 dX11_log_54 rfl rfl ?_
            refine a_iconst hΓ dX11_log_55 ?_
            obtain ⟨P47, q48, h⟩ := h
            refine n_callV (c := 0) (av := [aI (-1)]) (st := []) hΓ (ct_wX11_refuse _ _ (-1) M44 P47 q48) my_X11_refuse ml_RX11_83 ni_X11_refuse kd_0 rfl lz_0 rfl (Nat.le_trans (by decide) hh) (by decide) (Nat.le_of_ble_eq_true rfl) rfl dX11_log_56 (fun v Z' hq => ?_)
            obtain ⟨r49, M50, rfl, rfl, hq⟩ := hq
            have h := h r49 M50 hq
            dsimp only at h
            exact a_iret hΓ hr dX11_log_59 ⟨_, _, rfl, rfl, h⟩
          · rw [if_neg c46] at h
            refine a_aload_n hΓ 0 dX11_log_60 rfl rfl ?_
            refine a_iload_n hΓ 1 dX11_log_61 rfl rfl ?_
            obtain ⟨P51, q52, h⟩ := h
            refine n_callV (c := 0) (av := [aI v1]) (st := []) hΓ (ct_wX11_isShip _ _ v1 M44 P51 q52) my_X11_isShip ml_RX11_106 ni_X11_isShip kd_0 rfl lz_0 rfl (Nat.le_trans (by decide) hh) (by decide) (Nat.le_of_ble_eq_true rfl) rfl dX11_log_62 (fun v Z' hq => ?_)
            obtain ⟨r53, M54, rfl, rfl, hq⟩ := hq
            have h := h r53 M54 hq
            dsimp only at h
            obtain ⟨g55, h⟩ := h
            refine a_if_ne (tgt := 75) hΓ g55 dX11_log_65 (by decide) (fun c56 => ?_) (fun c56 => ?_)
            · rw [if_pos c56] at h
              refine a_aload_n hΓ 0 dX11_log_68 rfl rfl ?_
              refine a_bipush hΓ dX11_log_69 (by decide) ?_
              obtain ⟨P57, q58, h⟩ := h
              refine n_callV (c := 0) (av := [aI (-2)]) (st := []) hΓ (ct_wX11_refuse _ _ (-2) M54 P57 q58) my_X11_refuse ml_RX11_83 ni_X11_refuse kd_0 rfl lz_0 rfl (Nat.le_trans (by decide) hh) (by decide) (Nat.le_of_ble_eq_true rfl) rfl dX11_log_71 (fun v Z' hq => ?_)
              obtain ⟨r59, M60, rfl, rfl, hq⟩ := hq
              have h := h r59 M60 hq
              dsimp only at h
              exact a_iret hΓ hr dX11_log_74 ⟨_, _, rfl, rfl, h⟩
            · rw [if_neg c56] at h
              refine a_aload_n hΓ 0 dX11_log_75 rfl rfl ?_
              refine n_getR hΓ fl_RX11_29 cl_11 kd_0 lz_0 dX11_log_76 ft_11_3 rf_0_3 ?_
              refine a_iload_n hΓ 1 dX11_log_79 rfl rfl ?_
              obtain ⟨P61, q62, h⟩ := h
              refine n_callV (c := 72) (av := [aI v1]) (st := []) hΓ (ct_wX6_load _ _ v1 M54 P61 q62) my_X6_load ml_RX11_139 ni_X6_load kd_72 rfl lz_72 rfl (Nat.le_trans (by decide) hh) (by decide) (Nat.le_of_ble_eq_true rfl) rfl dX11_log_80 (fun v Z' hq => ?_)
              obtain ⟨M64, rfl, rfl, hq⟩ := hq
              have h := h M64 hq
              dsimp only at h
              refine a_aload_n hΓ 0 dX11_log_83 rfl rfl ?_
              refine n_getR hΓ fl_RX11_29 cl_11 kd_0 lz_0 dX11_log_84 ft_11_3 rf_0_3 ?_
              refine n_getR hΓ fl_RX11_143 cl_6 kd_72 lz_72 dX11_log_87 ft_6_3 rf_72_3 ?_
              refine a_iload_n hΓ 2 dX11_log_90 rfl rfl ?_
              obtain ⟨g65, h⟩ := h
              refine n_iald (x := (M64 74 v2)) hΓ dX11_log_91 kd_74 lz_74 g65 rfl ?_
              obtain ⟨g66, h⟩ := h
              refine a_if_ne (tgt := 102) hΓ g66 dX11_log_92 (by decide) (fun c67 => ?_) (fun c67 => ?_)
              · rw [if_pos c67] at h
                refine a_aload_n hΓ 0 dX11_log_95 rfl rfl ?_
                refine a_bipush hΓ dX11_log_96 (by decide) ?_
                obtain ⟨P68, q69, h⟩ := h
                refine n_callV (c := 0) (av := [aI (-3)]) (st := []) hΓ (ct_wX11_refuse _ _ (-3) M64 P68 q69) my_X11_refuse ml_RX11_83 ni_X11_refuse kd_0 rfl lz_0 rfl (Nat.le_trans (by decide) hh) (by decide) (Nat.le_of_ble_eq_true rfl) rfl dX11_log_98 (fun v Z' hq => ?_)
                obtain ⟨r70, M71, rfl, rfl, hq⟩ := hq
                have h := h r70 M71 hq
                dsimp only at h
                exact a_iret hΓ hr dX11_log_101 ⟨_, _, rfl, rfl, h⟩
              · rw [if_neg c67] at h
                refine a_aload_n hΓ 0 dX11_log_102 rfl rfl ?_
                refine a_iload_n hΓ 1 dX11_log_103 rfl rfl ?_
                refine a_iload_n hΓ 2 dX11_log_104 rfl rfl ?_
                refine a_iload_n hΓ 3 dX11_log_105 rfl rfl ?_
                refine a_iload hΓ 4 dX11_log_106 rfl ?_
                refine a_iload hΓ 5 dX11_log_108 rfl ?_
                refine a_iload hΓ 6 dX11_log_110 rfl ?_
                refine a_iconst hΓ dX11_log_112 ?_
                obtain ⟨P72, q73, h⟩ := h
                refine n_callV (c := 0) (av := [aI v1, aI v2, aI v3, aI v4, aI v5, aI v6, aI 0]) (st := []) hΓ (ct_wX11_addLog _ _ v1 v2 v3 v4 v5 v6 0 M64 P72 q73) my_X11_addLog ml_RX11_146 ni_X11_addLog kd_0 rfl lz_0 rfl (Nat.le_trans (by decide) hh) (by decide) (Nat.le_of_ble_eq_true rfl) rfl dX11_log_113 (fun v Z' hq => ?_)
                obtain ⟨r74, M75, rfl, rfl, hq⟩ := hq
                have h := h r74 M75 hq
                dsimp only at h
                exact a_iret hΓ hr dX11_log_116 ⟨_, _, rfl, rfl, h⟩
theorem ct_wX11_log (l : Launch) (g : Gp) (v1 : Int) (v2 : Int) (v3 : Int) (v4 : Int) (v5 : Int) (v6 : Int) (M : Mm) (Q : Int → Mm → Prop) (h : wX11_log v1 v2 v3 v4 v5 v6 M Q) : Ct l g yX11_log cX11_log 7 (some .int) 5 0 0 [aR 0, aI v1, aI v2, aI v3, aI v4, aI v5, aI v6] (NC, RF, M) (QI Q) :=
  ct_of (by decide) (Nat.le_of_ble_eq_true rfl) (fun Γ hg hl hr _ hΓ => by subst hg; subst hl; exact s_wX11_log hΓ (by decide) hr v1 v2 v3 v4 v5 v6 M h)
def wX11_look (v1 : Int) (v2 : Int) (v3 : Int) (v4 : Int) (v5 : Int) (v6 : Int) (M : Mm) (Q : Int → Mm → Prop) : Prop :=
    Bd (wX11_isDay v2 M) (fun r3 M4 =>
    (inR r3) ∧
    (if r3 = 0 then
      Bd (wX11_refuse (-1) M4) (fun r9 M10 =>
      Q r9 M10)
    else
      Bd (wX11_within v3 0 1000 M4) (fun r13 M14 =>
      (inR r13) ∧
      (if r13 = 0 then
        Bd (wX11_refuse (-1) M14) (fun r19 M20 =>
        Q r19 M20)
      else
        Bd (wX11_within v4 v3 1000 M14) (fun r23 M24 =>
        (inR r23) ∧
        (if r23 = 0 then
          Bd (wX11_refuse (-1) M24) (fun r29 M30 =>
          Q r29 M30)
        else
          Bd (wX11_within v5 1 100 M24) (fun r33 M34 =>
          (inR r33) ∧
          (if r33 = 0 then
            Bd (wX11_refuse (-1) M34) (fun r39 M40 =>
            Q r39 M40)
          else
            Bd (wX11_isDay v6 M34) (fun r43 M44 =>
            (inR r43) ∧
            (if r43 = 0 then
              Bd (wX11_refuse (-1) M44) (fun r49 M50 =>
              Q r49 M50)
            else
              Bd (wX11_isShip v1 M44) (fun r53 M54 =>
              (inR r53) ∧
              (if r53 = 0 then
                Bd (wX11_refuse (-2) M54) (fun r59 M60 =>
                Q r59 M60)
              else
                Bd (wX11_addLog v1 v2 v3 v4 v5 v6 1 M54) (fun r63 M64 =>
                Q r63 M64)))))))))))))
set_option maxHeartbeats 4000000 in
theorem s_wX11_look {Γ : Cx} {h : Nat} (hΓ : Ok Γ cX11_look RX11 7 h 0 0) (hh : 3 ≤ h) (hr : (cxm Γ).sig.returnType = (some .int)) {Q : Int → Mm → Prop} (v1 : Int) (v2 : Int) (v3 : Int) (v4 : Int) (v5 : Int) (v6 : Int) (M : Mm) (h : wX11_look v1 v2 v3 v4 v5 v6 M Q) : Wa Γ 7 (Kf Γ (QI Q) 0 0) 0 0 0 [(0, aR 0), (1, aI v1), (2, aI v2), (3, aI v3), (4, aI v4), (5, aI v5), (6, aI v6)] [] (NC, RF, M) := by
  unfold wX11_look at h
  refine a_iload_n hΓ 2 dX11_look_0 rfl rfl ?_
  obtain ⟨P1, q2, h⟩ := h
  refine n_callS (av := [aI v2]) (st := []) hΓ (ct_wX11_isDay _ _ v2 M P1 q2) my_X11_isDay ml_RX11_102 rfl (Nat.le_trans (by decide) hh) (by decide) (Nat.le_of_ble_eq_true rfl) rfl dX11_look_1 (fun v Z' hq => ?_)
  obtain ⟨r3, M4, rfl, rfl, hq⟩ := hq
  have h := h r3 M4 hq
  dsimp only at h
  obtain ⟨g5, h⟩ := h
  refine a_if_eq (tgt := 30) hΓ g5 dX11_look_4 (by decide) (fun c6 => ?_) (fun c6 => ?_)
  · rw [if_pos c6] at h
    refine a_aload_n hΓ 0 dX11_look_30 rfl rfl ?_
    refine a_iconst hΓ dX11_look_31 ?_
    obtain ⟨P7, q8, h⟩ := h
    refine n_callV (c := 0) (av := [aI (-1)]) (st := []) hΓ (ct_wX11_refuse _ _ (-1) M4 P7 q8) my_X11_refuse ml_RX11_83 ni_X11_refuse kd_0 rfl lz_0 rfl (Nat.le_trans (by decide) hh) (by decide) (Nat.le_of_ble_eq_true rfl) rfl dX11_look_32 (fun v Z' hq => ?_)
    obtain ⟨r9, M10, rfl, rfl, hq⟩ := hq
    have h := h r9 M10 hq
    dsimp only at h
    exact a_iret hΓ hr dX11_look_35 ⟨_, _, rfl, rfl, h⟩
  · rw [if_neg c6] at h
    refine a_iload_n hΓ 3 dX11_look_7 rfl rfl ?_
    refine a_iconst hΓ dX11_look_8 ?_
    refine a_sipush hΓ dX11_look_9 (by decide) ?_
    obtain ⟨P11, q12, h⟩ := h
    refine n_callS (av := [aI v3, aI 0, aI 1000]) (st := []) hΓ (ct_wX11_within _ _ v3 0 1000 M4 P11 q12) my_X11_within ml_RX11_79 rfl (Nat.le_trans (by decide) hh) (by decide) (Nat.le_of_ble_eq_true rfl) rfl dX11_look_12 (fun v Z' hq => ?_)
    obtain ⟨r13, M14, rfl, rfl, hq⟩ := hq
    have h := h r13 M14 hq
    dsimp only at h
    obtain ⟨g15, h⟩ := h
    refine a_if_eq (tgt := 30) hΓ g15 dX11_look_15 (by decide) (fun c16 => ?_) (fun c16 => ?_)
    · rw [if_pos c16] at h
      refine a_aload_n hΓ 0 dX11_look_30 rfl rfl ?_
      refine a_iconst hΓ dX11_look_31 ?_
      obtain ⟨P17, q18, h⟩ := h
      refine n_callV (c := 0) (av := [aI (-1)]) (st := []) hΓ (ct_wX11_refuse _ _ (-1) M14 P17 q18) my_X11_refuse ml_RX11_83 ni_X11_refuse kd_0 rfl lz_0 rfl (Nat.le_trans (by decide) hh) (by decide) (Nat.le_of_ble_eq_true rfl) rfl dX11_look_32 (fun v Z' hq => ?_)
      obtain ⟨r19, M20, rfl, rfl, hq⟩ := hq
      have h := h r19 M20 hq
      dsimp only at h
      exact a_iret hΓ hr dX11_look_35 ⟨_, _, rfl, rfl, h⟩
    · rw [if_neg c16] at h
      refine a_iload hΓ 4 dX11_look_18 rfl ?_
      refine a_iload_n hΓ 3 dX11_look_20 rfl rfl ?_
      refine a_sipush hΓ dX11_look_21 (by decide) ?_
      obtain ⟨P21, q22, h⟩ := h
      refine n_callS (av := [aI v4, aI v3, aI 1000]) (st := []) hΓ (ct_wX11_within _ _ v4 v3 1000 M14 P21 q22) my_X11_within ml_RX11_79 rfl (Nat.le_trans (by decide) hh) (by decide) (Nat.le_of_ble_eq_true rfl) rfl dX11_look_24 (fun v Z' hq => ?_)
      obtain ⟨r23, M24, rfl, rfl, hq⟩ := hq
      have h := h r23 M24 hq
      dsimp only at h
      obtain ⟨g25, h⟩ := h
      refine a_if_ne (tgt := 36) hΓ g25 dX11_look_27 (by decide) (fun c26 => ?_) (fun c26 => ?_)
      · rw [if_pos c26] at h
        refine a_aload_n hΓ 0 dX11_look_30 rfl rfl ?_
        refine a_iconst hΓ dX11_look_31 ?_
        obtain ⟨P27, q28, h⟩ := h
        refine n_callV (c := 0) (av := [aI (-1)]) (st := []) hΓ (ct_wX11_refuse _ _ (-1) M24 P27 q28) my_X11_refuse ml_RX11_83 ni_X11_refuse kd_0 rfl lz_0 rfl (Nat.le_trans (by decide) hh) (by decide) (Nat.le_of_ble_eq_true rfl) rfl dX11_look_32 (fun v Z' hq => ?_)
        obtain ⟨r29, M30, rfl, rfl, hq⟩ := hq
        have h := h r29 M30 hq
        dsimp only at h
        exact a_iret hΓ hr dX11_look_35 ⟨_, _, rfl, rfl, h⟩
      · rw [if_neg c26] at h
        refine a_iload hΓ 5 dX11_look_36 rfl ?_
        refine a_iconst hΓ dX11_look_38 ?_
        refine a_bipush hΓ dX11_look_39 (by decide) ?_
        obtain ⟨P31, q32, h⟩ := h
        refine n_callS (av := [aI v5, aI 1, aI 100]) (st := []) hΓ (ct_wX11_within _ _ v5 1 100 M24 P31 q32) my_X11_within ml_RX11_79 rfl (Nat.le_trans (by decide) hh) (by decide) (Nat.le_of_ble_eq_true rfl) rfl dX11_look_41 (fun v Z' hq => ?_)
        obtain ⟨r33, M34, rfl, rfl, hq⟩ := hq
        have h := h r33 M34 hq
        dsimp only at h
        obtain ⟨g35, h⟩ := h
        refine a_if_eq (tgt := 55) hΓ g35 dX11_look_44 (by decide) (fun c36 => ?_) (fun c36 => ?_)
        · rw [if_pos c36] at h
          refine a_aload_n hΓ 0 dX11_look_55 rfl rfl ?_
          refine a_iconst hΓ dX11_look_56 ?_
          obtain ⟨P37, q38, h⟩ := h
          refine n_callV (c := 0) (av := [aI (-1)]) (st := []) hΓ (ct_wX11_refuse _ _ (-1) M34 P37 q38) my_X11_refuse ml_RX11_83 ni_X11_refuse kd_0 rfl lz_0 rfl (Nat.le_trans (by decide) hh) (by decide) (Nat.le_of_ble_eq_true rfl) rfl dX11_look_57 (fun v Z' hq => ?_)
          obtain ⟨r39, M40, rfl, rfl, hq⟩ := hq
          have h := h r39 M40 hq
          dsimp only at h
          exact a_iret hΓ hr dX11_look_60 ⟨_, _, rfl, rfl, h⟩
        · rw [if_neg c36] at h
          refine a_iload hΓ 6 dX11_look_47 rfl ?_
          obtain ⟨P41, q42, h⟩ := h
          refine n_callS (av := [aI v6]) (st := []) hΓ (ct_wX11_isDay _ _ v6 M34 P41 q42) my_X11_isDay ml_RX11_102 rfl (Nat.le_trans (by decide) hh) (by decide) (Nat.le_of_ble_eq_true rfl) rfl dX11_look_49 (fun v Z' hq => ?_)
          obtain ⟨r43, M44, rfl, rfl, hq⟩ := hq
          have h := h r43 M44 hq
          dsimp only at h
          obtain ⟨g45, h⟩ := h
          refine a_if_ne (tgt := 61) hΓ g45 dX11_look_52 (by decide) (fun c46 => ?_) (fun c46 => ?_)
          · rw [if_pos c46] at h
            refine a_aload_n hΓ 0 dX11_look_55 rfl rfl ?_
            refine a_iconst hΓ dX11_look_56 ?_
            obtain ⟨P47, q48, h⟩ := h
            refine n_callV (c := 0) (av := [aI (-1)]) (st := []) hΓ (ct_wX11_refuse _ _ (-1) M44 P47 q48) my_X11_refuse ml_RX11_83 ni_X11_refuse kd_0 rfl lz_0 rfl (Nat.le_trans (by decide) hh) (by decide) (Nat.le_of_ble_eq_true rfl) rfl dX11_look_57 (fun v Z' hq => ?_)
            obtain ⟨r49, M50, rfl, rfl, hq⟩ := hq
            have h := h r49 M50 hq
            dsimp only at h
            exact a_iret hΓ hr dX11_look_60 ⟨_, _, rfl, rfl, h⟩
          · rw [if_neg c46] at h
            refine a_aload_n hΓ 0 dX11_look_61 rfl rfl ?_
            refine a_iload_n hΓ 1 dX11_look_62 rfl rfl ?_
            obtain ⟨P51, q52, h⟩ := h
            refine n_callV (c := 0) (av := [aI v1]) (st := []) hΓ (ct_wX11_isShip _ _ v1 M44 P51 q52) my_X11_isShip ml_RX11_106 ni_X11_isShip kd_0 rfl lz_0 rfl (Nat.le_trans (by decide) hh) (by decide) (Nat.le_of_ble_eq_true rfl) rfl dX11_look_63 (fun v Z' hq => ?_)
            obtain ⟨r53, M54, rfl, rfl, hq⟩ := hq
            have h := h r53 M54 hq
            dsimp only at h
            obtain ⟨g55, h⟩ := h
            refine a_if_ne (tgt := 76) hΓ g55 dX11_look_66 (by decide) (fun c56 => ?_) (fun c56 => ?_)
            · rw [if_pos c56] at h
              refine a_aload_n hΓ 0 dX11_look_69 rfl rfl ?_
              refine a_bipush hΓ dX11_look_70 (by decide) ?_
              obtain ⟨P57, q58, h⟩ := h
              refine n_callV (c := 0) (av := [aI (-2)]) (st := []) hΓ (ct_wX11_refuse _ _ (-2) M54 P57 q58) my_X11_refuse ml_RX11_83 ni_X11_refuse kd_0 rfl lz_0 rfl (Nat.le_trans (by decide) hh) (by decide) (Nat.le_of_ble_eq_true rfl) rfl dX11_look_72 (fun v Z' hq => ?_)
              obtain ⟨r59, M60, rfl, rfl, hq⟩ := hq
              have h := h r59 M60 hq
              dsimp only at h
              exact a_iret hΓ hr dX11_look_75 ⟨_, _, rfl, rfl, h⟩
            · rw [if_neg c56] at h
              refine a_aload_n hΓ 0 dX11_look_76 rfl rfl ?_
              refine a_iload_n hΓ 1 dX11_look_77 rfl rfl ?_
              refine a_iload_n hΓ 2 dX11_look_78 rfl rfl ?_
              refine a_iload_n hΓ 3 dX11_look_79 rfl rfl ?_
              refine a_iload hΓ 4 dX11_look_80 rfl ?_
              refine a_iload hΓ 5 dX11_look_82 rfl ?_
              refine a_iload hΓ 6 dX11_look_84 rfl ?_
              refine a_iconst hΓ dX11_look_86 ?_
              obtain ⟨P61, q62, h⟩ := h
              refine n_callV (c := 0) (av := [aI v1, aI v2, aI v3, aI v4, aI v5, aI v6, aI 1]) (st := []) hΓ (ct_wX11_addLog _ _ v1 v2 v3 v4 v5 v6 1 M54 P61 q62) my_X11_addLog ml_RX11_146 ni_X11_addLog kd_0 rfl lz_0 rfl (Nat.le_trans (by decide) hh) (by decide) (Nat.le_of_ble_eq_true rfl) rfl dX11_look_87 (fun v Z' hq => ?_)
              obtain ⟨r63, M64, rfl, rfl, hq⟩ := hq
              have h := h r63 M64 hq
              dsimp only at h
              exact a_iret hΓ hr dX11_look_90 ⟨_, _, rfl, rfl, h⟩
theorem ct_wX11_look (l : Launch) (g : Gp) (v1 : Int) (v2 : Int) (v3 : Int) (v4 : Int) (v5 : Int) (v6 : Int) (M : Mm) (Q : Int → Mm → Prop) (h : wX11_look v1 v2 v3 v4 v5 v6 M Q) : Ct l g yX11_look cX11_look 7 (some .int) 3 0 0 [aR 0, aI v1, aI v2, aI v3, aI v4, aI v5, aI v6] (NC, RF, M) (QI Q) :=
  ct_of (by decide) (Nat.le_of_ble_eq_true rfl) (fun Γ hg hl hr _ hΓ => by subst hg; subst hl; exact s_wX11_look hΓ (by decide) hr v1 v2 v3 v4 v5 v6 M h)
def wX11_isLog (v1 : Int) (M : Mm) (Q : Int → Mm → Prop) : Prop :=
    Bd (wX11_within v1 0 ((M 15 0) - 1) M) (fun r3 M4 =>
    (r3 = 0 ∨ r3 = 1) ∧
    Q r3 M4)
set_option maxHeartbeats 4000000 in
theorem s_wX11_isLog {Γ : Cx} {h : Nat} (hΓ : Ok Γ cX11_isLog RX11 2 h 0 0) (hh : 2 ≤ h) (hr : (cxm Γ).sig.returnType = (some .boolean)) {Q : Int → Mm → Prop} (v1 : Int) (M : Mm) (h : wX11_isLog v1 M Q) : Wa Γ 2 (Kf Γ (QI Q) 0 0) 0 0 0 [(0, aR 0), (1, aI v1)] [] (NC, RF, M) := by
  unfold wX11_isLog at h
  refine a_iload_n hΓ 1 dX11_isLog_0 rfl rfl ?_
  refine a_iconst hΓ dX11_isLog_1 ?_
  refine a_aload_n hΓ 0 dX11_isLog_2 rfl rfl ?_
  refine n_getR hΓ fl_RX11_10 cl_11 kd_0 lz_0 dX11_isLog_3 ft_11_0 rf_0_0 ?_
  refine n_getR hΓ fl_RX11_153 cl_0 kd_1 lz_1 dX11_isLog_6 ft_0_14 rf_1_14 ?_
  refine n_getI (x := (M 15 0)) hΓ fl_RX11_306 cl_4 kd_15 lz_15 dX11_isLog_9 (Or.inl ft_4_0) rfl ?_
  refine a_iconst hΓ dX11_isLog_12 ?_
  refine a_isub hΓ dX11_isLog_13 ?_
  obtain ⟨P1, q2, h⟩ := h
  refine n_callS (av := [aI v1, aI 0, aI ((M 15 0) - 1)]) (st := []) hΓ (ct_wX11_within _ _ v1 0 ((M 15 0) - 1) M P1 q2) my_X11_within ml_RX11_79 rfl (Nat.le_trans (by decide) hh) (by decide) (Nat.le_of_ble_eq_true rfl) rfl dX11_isLog_14 (fun v Z' hq => ?_)
  obtain ⟨r3, M4, rfl, rfl, hq⟩ := hq
  have h := h r3 M4 hq
  dsimp only at h
  obtain ⟨g5, h⟩ := h
  exact a_zret hΓ hr g5 dX11_isLog_17 ⟨_, _, rfl, rfl, h⟩
theorem ct_wX11_isLog (l : Launch) (g : Gp) (v1 : Int) (M : Mm) (Q : Int → Mm → Prop) (h : wX11_isLog v1 M Q) : Ct l g yX11_isLog cX11_isLog 2 (some .boolean) 2 0 0 [aR 0, aI v1] (NC, RF, M) (QI Q) :=
  ct_of (by decide) (Nat.le_of_ble_eq_true rfl) (fun Γ hg hl hr _ hΓ => by subst hg; subst hl; exact s_wX11_isLog hΓ (by decide) hr v1 M h)
def wX11_of (v1 : Int) (v2 : Int) (M : Mm) (Q : Int → Mm → Prop) : Prop :=
    Bd (wX11_isLog v1 M) (fun r3 M4 =>
    (inR r3) ∧
    (if r3 = 0 then
      Q (-1) M4
    else
      (0 ≤ v1 ∧ v1 < 24) ∧
      Bv (wX6_load (M4 16 v1) M4) (fun M11 =>
      (inR v2) ∧
      (if v2 = 0 then
        Q (M11 16 v1) M11
      else
        (if v2 = 1 then
          Q (M11 17 v1) M11
        else
          (if v2 = 2 then
            Q (M11 79 v1) M11
          else
            (if v2 = 3 then
              Q (M11 80 v1) M11
            else
              (if v2 = 4 then
                Q (M11 20 v1) M11
              else
                (if v2 = 5 then
                  Q (M11 21 v1) M11
                else
                  (if v2 = 6 then
                    (inR (M11 23 v1)) ∧
                    (if (M11 23 v1) = 0 then
                      Q 0 M11
                    else
                      Q 1 M11)
                  else
                    Q (-1) M11))))))))))
set_option maxHeartbeats 4000000 in
theorem s_wX11_of {Γ : Cx} {h : Nat} (hΓ : Ok Γ cX11_of RX11 4 h 0 0) (hh : 5 ≤ h) (hr : (cxm Γ).sig.returnType = (some .int)) {Q : Int → Mm → Prop} (v1 : Int) (v2 : Int) (M : Mm) (h : wX11_of v1 v2 M Q) : Wa Γ 4 (Kf Γ (QI Q) 0 0) 0 0 0 [(0, aR 0), (1, aI v1), (2, aI v2)] [] (NC, RF, M) := by
  unfold wX11_of at h
  refine a_aload_n hΓ 0 dX11_of_0 rfl rfl ?_
  refine a_iload_n hΓ 1 dX11_of_1 rfl rfl ?_
  obtain ⟨P1, q2, h⟩ := h
  refine n_callV (c := 0) (av := [aI v1]) (st := []) hΓ (ct_wX11_isLog _ _ v1 M P1 q2) my_X11_isLog ml_RX11_150 ni_X11_isLog kd_0 rfl lz_0 rfl (Nat.le_trans (by decide) hh) (by decide) (Nat.le_of_ble_eq_true rfl) rfl dX11_of_2 (fun v Z' hq => ?_)
  obtain ⟨r3, M4, rfl, rfl, hq⟩ := hq
  have h := h r3 M4 hq
  dsimp only at h
  obtain ⟨g5, h⟩ := h
  refine a_if_ne (tgt := 10) hΓ g5 dX11_of_5 (by decide) (fun c6 => ?_) (fun c6 => ?_)
  · rw [if_pos c6] at h
    refine a_iconst hΓ dX11_of_8 ?_
    exact a_iret hΓ hr dX11_of_9 ⟨_, _, rfl, rfl, h⟩
  · rw [if_neg c6] at h
    refine a_aload_n hΓ 0 dX11_of_10 rfl rfl ?_
    refine n_getR hΓ fl_RX11_10 cl_11 kd_0 lz_0 dX11_of_11 ft_11_0 rf_0_0 ?_
    refine n_getR hΓ fl_RX11_153 cl_0 kd_1 lz_1 dX11_of_14 ft_0_14 rf_1_14 ?_
    refine a_astore_n (ls' := [(3, aR 15), (0, aR 0), (1, aI v1), (2, aI v2)]) hΓ dX11_of_17 rfl (by decide) rfl ?_
    refine a_aload_n hΓ 1 dX11_of_18 rfl rfl ?_
    refine n_getR hΓ fl_RX11_29 cl_11 kd_0 lz_0 dX11_of_19 ft_11_3 rf_0_3 ?_
    refine a_aload_n hΓ 0 dX11_of_22 rfl rfl ?_
    refine n_getR hΓ fl_RX11_157 cl_4 kd_15 lz_15 dX11_of_23 ft_4_1 rf_15_1 ?_
    refine a_iload_n hΓ 2 dX11_of_26 rfl rfl ?_
    obtain ⟨g7, h⟩ := h
    refine n_iald (x := (M4 16 v1)) hΓ dX11_of_27 kd_16 lz_16 g7 rfl ?_
    obtain ⟨P8, q9, h⟩ := h
    refine n_callV (c := 72) (av := [aI (M4 16 v1)]) (st := []) hΓ (ct_wX6_load _ _ (M4 16 v1) M4 P8 q9) my_X6_load ml_RX11_139 ni_X6_load kd_72 rfl lz_72 rfl (Nat.le_trans (by decide) hh) (by decide) (Nat.le_of_ble_eq_true rfl) rfl dX11_of_28 (fun v Z' hq => ?_)
    obtain ⟨M11, rfl, rfl, hq⟩ := hq
    have h := h M11 hq
    dsimp only at h
    refine a_iload_n hΓ 3 dX11_of_31 rfl rfl ?_
    obtain ⟨g12, h⟩ := h
    by_cases c13 : v2 = 0
    · rw [if_pos c13] at h
      refine a_tswIn (tgt := 76) hΓ g12 dX11_of_32 (by rw [c13]; decide) (by rw [c13]; decide) (by rw [c13]; rfl) (by decide) ?_
      refine a_aload_n hΓ 0 dX11_of_76 rfl rfl ?_
      refine n_getR hΓ fl_RX11_157 cl_4 kd_15 lz_15 dX11_of_77 ft_4_1 rf_15_1 ?_
      refine a_iload_n hΓ 2 dX11_of_80 rfl rfl ?_
      refine n_iald (x := (M11 16 v1)) hΓ dX11_of_81 kd_16 lz_16 g7 rfl ?_
      exact a_iret hΓ hr dX11_of_82 ⟨_, _, rfl, rfl, h⟩
    · rw [if_neg c13] at h
      by_cases c14 : v2 = 1
      · rw [if_pos c14] at h
        refine a_tswIn (tgt := 83) hΓ g12 dX11_of_32 (by rw [c14]; decide) (by rw [c14]; decide) (by rw [c14]; rfl) (by decide) ?_
        refine a_aload_n hΓ 0 dX11_of_83 rfl rfl ?_
        refine n_getR hΓ fl_RX11_162 cl_4 kd_15 lz_15 dX11_of_84 ft_4_2 rf_15_2 ?_
        refine a_iload_n hΓ 2 dX11_of_87 rfl rfl ?_
        refine n_iald (x := (M11 17 v1)) hΓ dX11_of_88 kd_17 lz_17 g7 rfl ?_
        exact a_iret hΓ hr dX11_of_89 ⟨_, _, rfl, rfl, h⟩
      · rw [if_neg c14] at h
        by_cases c15 : v2 = 2
        · rw [if_pos c15] at h
          refine a_tswIn (tgt := 90) hΓ g12 dX11_of_32 (by rw [c15]; decide) (by rw [c15]; decide) (by rw [c15]; rfl) (by decide) ?_
          refine a_aload_n hΓ 1 dX11_of_90 rfl rfl ?_
          refine n_getR hΓ fl_RX11_29 cl_11 kd_0 lz_0 dX11_of_91 ft_11_3 rf_0_3 ?_
          refine n_getR hΓ fl_RX11_165 cl_6 kd_72 lz_72 dX11_of_94 ft_6_9 rf_72_9 ?_
          refine a_iload_n hΓ 2 dX11_of_97 rfl rfl ?_
          refine n_iald (x := (M11 79 v1)) hΓ dX11_of_98 kd_79 lz_79 g7 rfl ?_
          exact a_iret hΓ hr dX11_of_99 ⟨_, _, rfl, rfl, h⟩
        · rw [if_neg c15] at h
          by_cases c16 : v2 = 3
          · rw [if_pos c16] at h
            refine a_tswIn (tgt := 100) hΓ g12 dX11_of_32 (by rw [c16]; decide) (by rw [c16]; decide) (by rw [c16]; rfl) (by decide) ?_
            refine a_aload_n hΓ 1 dX11_of_100 rfl rfl ?_
            refine n_getR hΓ fl_RX11_29 cl_11 kd_0 lz_0 dX11_of_101 ft_11_3 rf_0_3 ?_
            refine n_getR hΓ fl_RX11_168 cl_6 kd_72 lz_72 dX11_of_104 ft_6_10 rf_72_10 ?_
            refine a_iload_n hΓ 2 dX11_of_107 rfl rfl ?_
            refine n_iald (x := (M11 80 v1)) hΓ dX11_of_108 kd_80 lz_80 g7 rfl ?_
            exact a_iret hΓ hr dX11_of_109 ⟨_, _, rfl, rfl, h⟩
          · rw [if_neg c16] at h
            by_cases c17 : v2 = 4
            · rw [if_pos c17] at h
              refine a_tswIn (tgt := 110) hΓ g12 dX11_of_32 (by rw [c17]; decide) (by rw [c17]; decide) (by rw [c17]; rfl) (by decide) ?_
              refine a_aload_n hΓ 0 dX11_of_110 rfl rfl ?_
              refine n_getR hΓ fl_RX11_171 cl_4 kd_15 lz_15 dX11_of_111 ft_4_5 rf_15_5 ?_
              refine a_iload_n hΓ 2 dX11_of_114 rfl rfl ?_
              refine n_iald (x := (M11 20 v1)) hΓ dX11_of_115 kd_20 lz_20 g7 rfl ?_
              exact a_iret hΓ hr dX11_of_116 ⟨_, _, rfl, rfl, h⟩
            · rw [if_neg c17] at h
              by_cases c18 : v2 = 5
              · rw [if_pos c18] at h
                refine a_tswIn (tgt := 117) hΓ g12 dX11_of_32 (by rw [c18]; decide) (by rw [c18]; decide) (by rw [c18]; rfl) (by decide) ?_
                refine a_aload_n hΓ 0 dX11_of_117 rfl rfl ?_
                refine n_getR hΓ fl_RX11_174 cl_4 kd_15 lz_15 dX11_of_118 ft_4_6 rf_15_6 ?_
                refine a_iload_n hΓ 2 dX11_of_121 rfl rfl ?_
                refine n_iald (x := (M11 21 v1)) hΓ dX11_of_122 kd_21 lz_21 g7 rfl ?_
                exact a_iret hΓ hr dX11_of_123 ⟨_, _, rfl, rfl, h⟩
              · rw [if_neg c18] at h
                by_cases c19 : v2 = 6
                · rw [if_pos c19] at h
                  refine a_tswIn (tgt := 124) hΓ g12 dX11_of_32 (by rw [c19]; decide) (by rw [c19]; decide) (by rw [c19]; rfl) (by decide) ?_
                  refine a_aload_n hΓ 0 dX11_of_124 rfl rfl ?_
                  refine n_getR hΓ fl_RX11_177 cl_4 kd_15 lz_15 dX11_of_125 ft_4_8 rf_15_8 ?_
                  refine a_iload_n hΓ 2 dX11_of_128 rfl rfl ?_
                  refine n_bald (x := (M11 23 v1)) hΓ dX11_of_129 kd_23 (Or.inl rfl) lz_23 g7 rfl ?_
                  obtain ⟨g20, h⟩ := h
                  refine a_if_eq (tgt := 137) hΓ g20 dX11_of_130 (by decide) (fun c21 => ?_) (fun c21 => ?_)
                  · rw [if_pos c21] at h
                    refine a_iconst hΓ dX11_of_137 ?_
                    exact a_iret hΓ hr dX11_of_138 ⟨_, _, rfl, rfl, h⟩
                  · rw [if_neg c21] at h
                    refine a_iconst hΓ dX11_of_133 ?_
                    refine a_goto (tgt := 138) hΓ dX11_of_134 (by decide) ?_
                    exact a_iret hΓ hr dX11_of_138 ⟨_, _, rfl, rfl, h⟩
                · rw [if_neg c19] at h
                  refine a_tswOut (tgt := 139) hΓ g12 dX11_of_32 (by omega) (by decide) ?_
                  refine a_iconst hΓ dX11_of_139 ?_
                  exact a_iret hΓ hr dX11_of_140 ⟨_, _, rfl, rfl, h⟩
theorem ct_wX11_of (l : Launch) (g : Gp) (v1 : Int) (v2 : Int) (M : Mm) (Q : Int → Mm → Prop) (h : wX11_of v1 v2 M Q) : Ct l g yX11_of cX11_of 4 (some .int) 5 0 0 [aR 0, aI v1, aI v2] (NC, RF, M) (QI Q) :=
  ct_of (by decide) (Nat.le_of_ble_eq_true rfl) (fun Γ hg hl hr _ hΓ => by subst hg; subst hl; exact s_wX11_of hΓ (by decide) hr v1 v2 M h)
def wX11_leave (v1 : Int) (v2 : Int) (M : Mm) (Q : Int → Mm → Prop) : Prop :=
    Bd (wX11_within v2 0 1 M) (fun r3 M4 =>
    (inR r3) ∧
    (if r3 = 0 then
      Bd (wX11_refuse (-1) M4) (fun r9 M10 =>
      Q r9 M10)
    else
      Bd (wX11_isLog v1 M4) (fun r13 M14 =>
      (inR r13) ∧
      (if r13 = 0 then
        Bd (wX11_refuse (-2) M14) (fun r19 M20 =>
        Q r19 M20)
      else
        (inR v2) ∧
        (if v2 = 1 then
          (0 ≤ v1 ∧ v1 < 24) ∧
          Bd (wX11_accept 0 (up M14 23 v1 1)) (fun r26 M27 =>
          Q r26 M27)
        else
          (0 ≤ v1 ∧ v1 < 24) ∧
          Bd (wX11_accept 0 (up M14 23 v1 0)) (fun r31 M32 =>
          Q r31 M32))))))
set_option maxHeartbeats 4000000 in
theorem s_wX11_leave {Γ : Cx} {h : Nat} (hΓ : Ok Γ cX11_leave RX11 3 h 0 0) (hh : 3 ≤ h) (hr : (cxm Γ).sig.returnType = (some .int)) {Q : Int → Mm → Prop} (v1 : Int) (v2 : Int) (M : Mm) (h : wX11_leave v1 v2 M Q) : Wa Γ 3 (Kf Γ (QI Q) 0 0) 0 0 0 [(0, aR 0), (1, aI v1), (2, aI v2)] [] (NC, RF, M) := by
  unfold wX11_leave at h
  refine a_iload_n hΓ 2 dX11_leave_0 rfl rfl ?_
  refine a_iconst hΓ dX11_leave_1 ?_
  refine a_iconst hΓ dX11_leave_2 ?_
  obtain ⟨P1, q2, h⟩ := h
  refine n_callS (av := [aI v2, aI 0, aI 1]) (st := []) hΓ (ct_wX11_within _ _ v2 0 1 M P1 q2) my_X11_within ml_RX11_79 rfl (Nat.le_trans (by decide) hh) (by decide) (Nat.le_of_ble_eq_true rfl) rfl dX11_leave_3 (fun v Z' hq => ?_)
  obtain ⟨r3, M4, rfl, rfl, hq⟩ := hq
  have h := h r3 M4 hq
  dsimp only at h
  obtain ⟨g5, h⟩ := h
  refine a_if_ne (tgt := 15) hΓ g5 dX11_leave_6 (by decide) (fun c6 => ?_) (fun c6 => ?_)
  · rw [if_pos c6] at h
    refine a_aload_n hΓ 0 dX11_leave_9 rfl rfl ?_
    refine a_iconst hΓ dX11_leave_10 ?_
    obtain ⟨P7, q8, h⟩ := h
    refine n_callV (c := 0) (av := [aI (-1)]) (st := []) hΓ (ct_wX11_refuse _ _ (-1) M4 P7 q8) my_X11_refuse ml_RX11_83 ni_X11_refuse kd_0 rfl lz_0 rfl (Nat.le_trans (by decide) hh) (by decide) (Nat.le_of_ble_eq_true rfl) rfl dX11_leave_11 (fun v Z' hq => ?_)
    obtain ⟨r9, M10, rfl, rfl, hq⟩ := hq
    have h := h r9 M10 hq
    dsimp only at h
    exact a_iret hΓ hr dX11_leave_14 ⟨_, _, rfl, rfl, h⟩
  · rw [if_neg c6] at h
    refine a_aload_n hΓ 0 dX11_leave_15 rfl rfl ?_
    refine a_iload_n hΓ 1 dX11_leave_16 rfl rfl ?_
    obtain ⟨P11, q12, h⟩ := h
    refine n_callV (c := 0) (av := [aI v1]) (st := []) hΓ (ct_wX11_isLog _ _ v1 M4 P11 q12) my_X11_isLog ml_RX11_150 ni_X11_isLog kd_0 rfl lz_0 rfl (Nat.le_trans (by decide) hh) (by decide) (Nat.le_of_ble_eq_true rfl) rfl dX11_leave_17 (fun v Z' hq => ?_)
    obtain ⟨r13, M14, rfl, rfl, hq⟩ := hq
    have h := h r13 M14 hq
    dsimp only at h
    obtain ⟨g15, h⟩ := h
    refine a_if_ne (tgt := 30) hΓ g15 dX11_leave_20 (by decide) (fun c16 => ?_) (fun c16 => ?_)
    · rw [if_pos c16] at h
      refine a_aload_n hΓ 0 dX11_leave_23 rfl rfl ?_
      refine a_bipush hΓ dX11_leave_24 (by decide) ?_
      obtain ⟨P17, q18, h⟩ := h
      refine n_callV (c := 0) (av := [aI (-2)]) (st := []) hΓ (ct_wX11_refuse _ _ (-2) M14 P17 q18) my_X11_refuse ml_RX11_83 ni_X11_refuse kd_0 rfl lz_0 rfl (Nat.le_trans (by decide) hh) (by decide) (Nat.le_of_ble_eq_true rfl) rfl dX11_leave_26 (fun v Z' hq => ?_)
      obtain ⟨r19, M20, rfl, rfl, hq⟩ := hq
      have h := h r19 M20 hq
      dsimp only at h
      exact a_iret hΓ hr dX11_leave_29 ⟨_, _, rfl, rfl, h⟩
    · rw [if_neg c16] at h
      refine a_aload_n hΓ 0 dX11_leave_30 rfl rfl ?_
      refine n_getR hΓ fl_RX11_10 cl_11 kd_0 lz_0 dX11_leave_31 ft_11_0 rf_0_0 ?_
      refine n_getR hΓ fl_RX11_153 cl_0 kd_1 lz_1 dX11_leave_34 ft_0_14 rf_1_14 ?_
      refine n_getR hΓ fl_RX11_177 cl_4 kd_15 lz_15 dX11_leave_37 ft_4_8 rf_15_8 ?_
      refine a_iload_n hΓ 1 dX11_leave_40 rfl rfl ?_
      refine a_iload_n hΓ 2 dX11_leave_41 rfl rfl ?_
      refine a_iconst hΓ dX11_leave_42 ?_
      obtain ⟨g21, h⟩ := h
      refine a_icmp_ne (tgt := 50) hΓ g21 (inRl (by decide)) dX11_leave_43 (by decide) (fun c22 => ?_) (fun c22 => ?_)
      · rw [if_pos c22] at h
        refine a_iconst hΓ dX11_leave_46 ?_
        refine a_goto (tgt := 51) hΓ dX11_leave_47 (by decide) ?_
        obtain ⟨g23, h⟩ := h
        refine a_zast hΓ rfl (Or.inr rfl) dX11_leave_51 kd_23 lz_23 g23 ?_
        refine a_aload_n hΓ 0 dX11_leave_52 rfl rfl ?_
        refine a_iconst hΓ dX11_leave_53 ?_
        obtain ⟨P24, q25, h⟩ := h
        refine n_callV (c := 0) (av := [aI 0]) (st := []) hΓ (ct_wX11_accept _ _ 0 (up M14 23 v1 1) P24 q25) my_X11_accept ml_RX11_91 ni_X11_accept kd_0 rfl lz_0 rfl (Nat.le_trans (by decide) hh) (by decide) (Nat.le_of_ble_eq_true rfl) rfl dX11_leave_54 (fun v Z' hq => ?_)
        obtain ⟨r26, M27, rfl, rfl, hq⟩ := hq
        have h := h r26 M27 hq
        dsimp only at h
        exact a_iret hΓ hr dX11_leave_57 ⟨_, _, rfl, rfl, h⟩
      · rw [if_neg c22] at h
        refine a_iconst hΓ dX11_leave_50 ?_
        obtain ⟨g28, h⟩ := h
        refine a_zast hΓ rfl (Or.inl rfl) dX11_leave_51 kd_23 lz_23 g28 ?_
        refine a_aload_n hΓ 0 dX11_leave_52 rfl rfl ?_
        refine a_iconst hΓ dX11_leave_53 ?_
        obtain ⟨P29, q30, h⟩ := h
        refine n_callV (c := 0) (av := [aI 0]) (st := []) hΓ (ct_wX11_accept _ _ 0 (up M14 23 v1 0) P29 q30) my_X11_accept ml_RX11_91 ni_X11_accept kd_0 rfl lz_0 rfl (Nat.le_trans (by decide) hh) (by decide) (Nat.le_of_ble_eq_true rfl) rfl dX11_leave_54 (fun v Z' hq => ?_)
        obtain ⟨r31, M32, rfl, rfl, hq⟩ := hq
        have h := h r31 M32 hq
        dsimp only at h
        exact a_iret hΓ hr dX11_leave_57 ⟨_, _, rfl, rfl, h⟩
theorem ct_wX11_leave (l : Launch) (g : Gp) (v1 : Int) (v2 : Int) (M : Mm) (Q : Int → Mm → Prop) (h : wX11_leave v1 v2 M Q) : Ct l g yX11_leave cX11_leave 3 (some .int) 3 0 0 [aR 0, aI v1, aI v2] (NC, RF, M) (QI Q) :=
  ct_of (by decide) (Nat.le_of_ble_eq_true rfl) (fun Γ hg hl hr _ hΓ => by subst hg; subst hl; exact s_wX11_leave hΓ (by decide) hr v1 v2 M h)
def wX11_law (v1 : Int) (v2 : Int) (v3 : Int) (M : Mm) (Q : Int → Mm → Prop) : Prop :=
    Bd (wX11_isShip v1 M) (fun r3 M4 =>
    (inR r3) ∧
    (if r3 = 0 then
      Q (-1000) M4
    else
      Bd (wX11_within v2 0 118 M4) (fun r9 M10 =>
      (inR r9) ∧
      (if r9 = 0 then
        Q (-1000) M10
      else
        Bd (wX11_within v3 0 1 M10) (fun r15 M16 =>
        (inR r15) ∧
        (if r15 = 0 then
          Q (-1000) M16
        else
          Bv (wX6_load v1 M16) (fun M22 =>
          (0 ≤ (v2 + 1) ∧ (v2 + 1) < 120) ∧
          (inR (M22 78 (v2 + 1))) ∧
          (if (M22 78 (v2 + 1)) = 0 then
            (inR v3) ∧
            (if v3 = 0 then
              (0 ≤ v2 ∧ v2 < 120) ∧
              Q (M22 75 v2) M22
            else
              (0 ≤ v2 ∧ v2 < 120) ∧
              Q (M22 76 v2) M22)
          else
            Q (-1000) M22))))))))
set_option maxHeartbeats 4000000 in
theorem s_wX11_law {Γ : Cx} {h : Nat} (hΓ : Ok Γ cX11_law RX11 4 h 0 0) (hh : 5 ≤ h) (hr : (cxm Γ).sig.returnType = (some .int)) {Q : Int → Mm → Prop} (v1 : Int) (v2 : Int) (v3 : Int) (M : Mm) (h : wX11_law v1 v2 v3 M Q) : Wa Γ 4 (Kf Γ (QI Q) 0 0) 0 0 0 [(0, aR 0), (1, aI v1), (2, aI v2), (3, aI v3)] [] (NC, RF, M) := by
  unfold wX11_law at h
  refine a_aload_n hΓ 0 dX11_law_0 rfl rfl ?_
  refine a_iload_n hΓ 1 dX11_law_1 rfl rfl ?_
  obtain ⟨P1, q2, h⟩ := h
  refine n_callV (c := 0) (av := [aI v1]) (st := []) hΓ (ct_wX11_isShip _ _ v1 M P1 q2) my_X11_isShip ml_RX11_106 ni_X11_isShip kd_0 rfl lz_0 rfl (Nat.le_trans (by decide) hh) (by decide) (Nat.le_of_ble_eq_true rfl) rfl dX11_law_2 (fun v Z' hq => ?_)
  obtain ⟨r3, M4, rfl, rfl, hq⟩ := hq
  have h := h r3 M4 hq
  dsimp only at h
  obtain ⟨g5, h⟩ := h
  refine a_if_eq (tgt := 27) hΓ g5 dX11_law_5 (by decide) (fun c6 => ?_) (fun c6 => ?_)
  · rw [if_pos c6] at h
    refine a_sipush hΓ dX11_law_27 (by decide) ?_
    exact a_iret hΓ hr dX11_law_30 ⟨_, _, rfl, rfl, h⟩
  · rw [if_neg c6] at h
    refine a_iload_n hΓ 2 dX11_law_8 rfl rfl ?_
    refine a_iconst hΓ dX11_law_9 ?_
    refine a_bipush hΓ dX11_law_10 (by decide) ?_
    obtain ⟨P7, q8, h⟩ := h
    refine n_callS (av := [aI v2, aI 0, aI 118]) (st := []) hΓ (ct_wX11_within _ _ v2 0 118 M4 P7 q8) my_X11_within ml_RX11_79 rfl (Nat.le_trans (by decide) hh) (by decide) (Nat.le_of_ble_eq_true rfl) rfl dX11_law_12 (fun v Z' hq => ?_)
    obtain ⟨r9, M10, rfl, rfl, hq⟩ := hq
    have h := h r9 M10 hq
    dsimp only at h
    obtain ⟨g11, h⟩ := h
    refine a_if_eq (tgt := 27) hΓ g11 dX11_law_15 (by decide) (fun c12 => ?_) (fun c12 => ?_)
    · rw [if_pos c12] at h
      refine a_sipush hΓ dX11_law_27 (by decide) ?_
      exact a_iret hΓ hr dX11_law_30 ⟨_, _, rfl, rfl, h⟩
    · rw [if_neg c12] at h
      refine a_iload_n hΓ 3 dX11_law_18 rfl rfl ?_
      refine a_iconst hΓ dX11_law_19 ?_
      refine a_iconst hΓ dX11_law_20 ?_
      obtain ⟨P13, q14, h⟩ := h
      refine n_callS (av := [aI v3, aI 0, aI 1]) (st := []) hΓ (ct_wX11_within _ _ v3 0 1 M10 P13 q14) my_X11_within ml_RX11_79 rfl (Nat.le_trans (by decide) hh) (by decide) (Nat.le_of_ble_eq_true rfl) rfl dX11_law_21 (fun v Z' hq => ?_)
      obtain ⟨r15, M16, rfl, rfl, hq⟩ := hq
      have h := h r15 M16 hq
      dsimp only at h
      obtain ⟨g17, h⟩ := h
      refine a_if_ne (tgt := 31) hΓ g17 dX11_law_24 (by decide) (fun c18 => ?_) (fun c18 => ?_)
      · rw [if_pos c18] at h
        refine a_sipush hΓ dX11_law_27 (by decide) ?_
        exact a_iret hΓ hr dX11_law_30 ⟨_, _, rfl, rfl, h⟩
      · rw [if_neg c18] at h
        refine a_aload_n hΓ 0 dX11_law_31 rfl rfl ?_
        refine n_getR hΓ fl_RX11_29 cl_11 kd_0 lz_0 dX11_law_32 ft_11_3 rf_0_3 ?_
        refine a_iload_n hΓ 1 dX11_law_35 rfl rfl ?_
        obtain ⟨P19, q20, h⟩ := h
        refine n_callV (c := 72) (av := [aI v1]) (st := []) hΓ (ct_wX6_load _ _ v1 M16 P19 q20) my_X6_load ml_RX11_139 ni_X6_load kd_72 rfl lz_72 rfl (Nat.le_trans (by decide) hh) (by decide) (Nat.le_of_ble_eq_true rfl) rfl dX11_law_36 (fun v Z' hq => ?_)
        obtain ⟨M22, rfl, rfl, hq⟩ := hq
        have h := h M22 hq
        dsimp only at h
        refine a_aload_n hΓ 0 dX11_law_39 rfl rfl ?_
        refine n_getR hΓ fl_RX11_29 cl_11 kd_0 lz_0 dX11_law_40 ft_11_3 rf_0_3 ?_
        refine n_getR hΓ fl_RX11_180 cl_6 kd_72 lz_72 dX11_law_43 ft_6_7 rf_72_7 ?_
        refine a_iload_n hΓ 2 dX11_law_46 rfl rfl ?_
        refine a_iconst hΓ dX11_law_47 ?_
        refine a_iadd hΓ dX11_law_48 ?_
        obtain ⟨g23, h⟩ := h
        refine n_bald (x := (M22 78 (v2 + 1))) hΓ dX11_law_49 kd_78 (Or.inl rfl) lz_78 g23 rfl ?_
        obtain ⟨g24, h⟩ := h
        refine a_if_eq (tgt := 57) hΓ g24 dX11_law_50 (by decide) (fun c25 => ?_) (fun c25 => ?_)
        · rw [if_pos c25] at h
          refine a_iload_n hΓ 3 dX11_law_57 rfl rfl ?_
          obtain ⟨g26, h⟩ := h
          refine a_if_ne (tgt := 73) hΓ g26 dX11_law_58 (by decide) (fun c27 => ?_) (fun c27 => ?_)
          · rw [if_pos c27] at h
            refine a_aload_n hΓ 0 dX11_law_61 rfl rfl ?_
            refine n_getR hΓ fl_RX11_29 cl_11 kd_0 lz_0 dX11_law_62 ft_11_3 rf_0_3 ?_
            refine n_getR hΓ fl_RX11_183 cl_6 kd_72 lz_72 dX11_law_65 ft_6_4 rf_72_4 ?_
            refine a_iload_n hΓ 2 dX11_law_68 rfl rfl ?_
            obtain ⟨g28, h⟩ := h
            refine n_iald (x := (M22 75 v2)) hΓ dX11_law_69 kd_75 lz_75 g28 rfl ?_
            refine a_goto (tgt := 82) hΓ dX11_law_70 (by decide) ?_
            exact a_iret hΓ hr dX11_law_82 ⟨_, _, rfl, rfl, h⟩
          · rw [if_neg c27] at h
            refine a_aload_n hΓ 0 dX11_law_73 rfl rfl ?_
            refine n_getR hΓ fl_RX11_29 cl_11 kd_0 lz_0 dX11_law_74 ft_11_3 rf_0_3 ?_
            refine n_getR hΓ fl_RX11_186 cl_6 kd_72 lz_72 dX11_law_77 ft_6_5 rf_72_5 ?_
            refine a_iload_n hΓ 2 dX11_law_80 rfl rfl ?_
            obtain ⟨g29, h⟩ := h
            refine n_iald (x := (M22 76 v2)) hΓ dX11_law_81 kd_76 lz_76 g29 rfl ?_
            exact a_iret hΓ hr dX11_law_82 ⟨_, _, rfl, rfl, h⟩
        · rw [if_neg c25] at h
          refine a_sipush hΓ dX11_law_53 (by decide) ?_
          exact a_iret hΓ hr dX11_law_56 ⟨_, _, rfl, rfl, h⟩
theorem ct_wX11_law (l : Launch) (g : Gp) (v1 : Int) (v2 : Int) (v3 : Int) (M : Mm) (Q : Int → Mm → Prop) (h : wX11_law v1 v2 v3 M Q) : Ct l g yX11_law cX11_law 4 (some .int) 5 0 0 [aR 0, aI v1, aI v2, aI v3] (NC, RF, M) (QI Q) :=
  ct_of (by decide) (Nat.le_of_ble_eq_true rfl) (fun Γ hg hl hr _ hΓ => by subst hg; subst hl; exact s_wX11_law hΓ (by decide) hr v1 v2 v3 M h)
def wX6_fuel_5 (Q : Int → Mm → Prop) (v1 : Int) (v2 : Int) : Nat → Int → Int → Mm → Prop
  | 0, _, _, _ => False
  | f + 1, v3, v4, M => (inR v4) ∧
    (if v4 < 4 then
      Bd (wX6_portion v4 v1 v2 M) (fun r5 M6 =>
      (wX6_fuel_5 Q v1 v2 f) (v3 + r5) (v4 + 1) M6)
    else
      (inR v3) ∧
      Q (Int.tdiv v3 100) M)
set_option maxHeartbeats 4000000 in
theorem s_wX6_fuel_5 {Γ : Cx} {h : Nat} (hΓ : Ok Γ cX6_fuel RX6 5 h 0 0) (hh : 2 ≤ h) (hr : (cxm Γ).sig.returnType = (some .int)) {Q : Int → Mm → Prop} {v1 v2 : Int}   : ∀ (f : Nat) (v3 : Int) (v4 : Int) (M : Mm), wX6_fuel_5 Q v1 v2 f v3 v4 M → Wa Γ 5 (Kf Γ (QI Q) 0 0) 0 0 5 [(0, aR 72), (1, aI v1), (2, aI v2), (3, aI v3), (4, aI v4)] [] (NC, RF, M) := by
  intro f
  induction f with
  | zero => intro v3 v4 M h; exact h.elim
  | succ f ih =>
    intro v3 v4 M h
    unfold wX6_fuel_5 at h
    refine a_iload hΓ 4 dX6_fuel_5 rfl ?_
    refine a_iconst hΓ dX6_fuel_7 ?_
    obtain ⟨g1, h⟩ := h
    refine a_icmp_ge (tgt := 28) hΓ g1 (inRl (by decide)) dX6_fuel_8 (by decide) (fun c2 => ?_) (fun c2 => ?_)
    · rw [if_pos c2] at h
      refine a_iload_n hΓ 3 dX6_fuel_11 rfl rfl ?_
      refine a_aload_n hΓ 0 dX6_fuel_12 rfl rfl ?_
      refine a_iload hΓ 4 dX6_fuel_13 rfl ?_
      refine a_iload_n hΓ 1 dX6_fuel_15 rfl rfl ?_
      refine a_iload_n hΓ 2 dX6_fuel_16 rfl rfl ?_
      obtain ⟨P3, q4, h⟩ := h
      refine n_callV (c := 72) (av := [aI v4, aI v1, aI v2]) (st := [aI v3]) hΓ (ct_wX6_portion _ _ v4 v1 v2 M P3 q4) my_X6_portion ml_RX6_130 ni_X6_portion kd_72 rfl lz_72 rfl (Nat.le_trans (by decide) hh) (by decide) (Nat.le_of_ble_eq_true rfl) rfl dX6_fuel_17 (fun v Z' hq => ?_)
      obtain ⟨r5, M6, rfl, rfl, hq⟩ := hq
      have h := h r5 M6 hq
      dsimp only at h
      refine a_iadd hΓ dX6_fuel_20 ?_
      refine a_istore_n (ls' := [(3, aI (v3 + r5)), (0, aR 72), (1, aI v1), (2, aI v2), (4, aI v4)]) hΓ dX6_fuel_21 rfl (by decide) rfl ?_
      refine a_iinc (ls' := [(4, aI (v4 + 1)), (3, aI (v3 + r5)), (0, aR 72), (1, aI v1), (2, aI v2)]) hΓ 4 dX6_fuel_22 rfl (by decide) rfl ?_
      refine a_goto (tgt := 5) hΓ dX6_fuel_25 (by decide) ?_
      refine a_sub (ls' := [(0, aR 72), (1, aI v1), (2, aI v2), (3, aI (v3 + r5)), (4, aI (v4 + 1))]) [2, 3, 4, 1, 0] rfl ?_
      exact ih (v3 + r5) (v4 + 1) M6 h
    · rw [if_neg c2] at h
      refine a_iload_n hΓ 3 dX6_fuel_28 rfl rfl ?_
      refine a_bipush hΓ dX6_fuel_29 (by decide) ?_
      obtain ⟨g7, h⟩ := h
      refine a_idiv hΓ g7 (inRl (by decide)) (by decide) dX6_fuel_31 ?_
      exact a_iret hΓ hr dX6_fuel_32 ⟨_, _, rfl, rfl, h⟩
def wX6_fuel (v1 : Int) (v2 : Int) (M : Mm) (Q : Int → Mm → Prop) : Prop :=
    ∃ n, wX6_fuel_5 Q v1 v2 n 0 0 M
set_option maxHeartbeats 4000000 in
theorem s_wX6_fuel {Γ : Cx} {h : Nat} (hΓ : Ok Γ cX6_fuel RX6 5 h 0 0) (hh : 2 ≤ h) (hr : (cxm Γ).sig.returnType = (some .int)) {Q : Int → Mm → Prop} (v1 : Int) (v2 : Int) (M : Mm) (h : wX6_fuel v1 v2 M Q) : Wa Γ 5 (Kf Γ (QI Q) 0 0) 0 0 0 [(0, aR 72), (1, aI v1), (2, aI v2)] [] (NC, RF, M) := by
  unfold wX6_fuel at h
  refine a_iconst hΓ dX6_fuel_0 ?_
  refine a_istore_n (ls' := [(3, aI 0), (0, aR 72), (1, aI v1), (2, aI v2)]) hΓ dX6_fuel_1 rfl (by decide) rfl ?_
  refine a_iconst hΓ dX6_fuel_2 ?_
  refine a_istore (ls' := [(4, aI 0), (3, aI 0), (0, aR 72), (1, aI v1), (2, aI v2)]) hΓ dX6_fuel_3 (by decide) rfl ?_
  refine a_sub (ls' := [(0, aR 72), (1, aI v1), (2, aI v2), (3, aI 0), (4, aI 0)]) [2, 3, 4, 1, 0] rfl ?_
  obtain ⟨f1, h⟩ := h
  exact s_wX6_fuel_5 hΓ (Nat.le_trans (by decide) hh) hr  f1 0 0 M h
theorem ct_wX6_fuel (l : Launch) (g : Gp) (v1 : Int) (v2 : Int) (M : Mm) (Q : Int → Mm → Prop) (h : wX6_fuel v1 v2 M Q) : Ct l g yX6_fuel cX6_fuel 5 (some .int) 2 0 0 [aR 72, aI v1, aI v2] (NC, RF, M) (QI Q) :=
  ct_of (by decide) (Nat.le_of_ble_eq_true rfl) (fun Γ hg hl hr _ hΓ => by subst hg; subst hl; exact s_wX6_fuel hΓ (by decide) hr v1 v2 M h)
def wX6_shareOf_90 (Q : Int → Mm → Prop) (v4 : Int) (v5 : Int) (v6 : Int) (M : Mm) : Prop :=
    (inR v4) ∧
    (inR v6) ∧
    (inR v5) ∧
    (if v6 < v5 then
      Q ((Int.tdiv v4 100) + 1) M
    else
      Q ((Int.tdiv v4 100) + 0) M)
set_option maxHeartbeats 4000000 in
theorem s_wX6_shareOf_90 {Γ : Cx} {h : Nat} (hΓ : Ok Γ cX6_shareOf RX6 9 h 0 0) (hh : 3 ≤ h) (hr : (cxm Γ).sig.returnType = (some .int)) {Q : Int → Mm → Prop} {v4 v5 v6 : Int}   (M : Mm) (h : wX6_shareOf_90 Q v4 v5 v6 M) : Wa Γ 9 (Kf Γ (QI Q) 0 0) 0 0 90 [(4, aI v4), (5, aI v5), (6, aI v6)] [] (NC, RF, M) := by
  unfold wX6_shareOf_90 at h
  refine a_iload hΓ 0 dX6_shareOf_90 rfl ?_
  refine a_bipush hΓ dX6_shareOf_92 (by decide) ?_
  obtain ⟨g1, h⟩ := h
  refine a_idiv hΓ g1 (inRl (by decide)) (by decide) dX6_shareOf_94 ?_
  refine a_iload hΓ 2 dX6_shareOf_95 rfl ?_
  refine a_iload hΓ 1 dX6_shareOf_97 rfl ?_
  obtain ⟨g2, h⟩ := h
  obtain ⟨g3, h⟩ := h
  refine a_icmp_ge (tgt := 106) hΓ g2 g3 dX6_shareOf_99 (by decide) (fun c4 => ?_) (fun c4 => ?_)
  · rw [if_pos c4] at h
    refine a_iconst hΓ dX6_shareOf_102 ?_
    refine a_goto (tgt := 107) hΓ dX6_shareOf_103 (by decide) ?_
    refine a_iadd hΓ dX6_shareOf_107 ?_
    exact a_iret hΓ hr dX6_shareOf_108 ⟨_, _, rfl, rfl, h⟩
  · rw [if_neg c4] at h
    refine a_iconst hΓ dX6_shareOf_106 ?_
    refine a_iadd hΓ dX6_shareOf_107 ?_
    exact a_iret hΓ hr dX6_shareOf_108 ⟨_, _, rfl, rfl, h⟩
def wX6_shareOf_23 (Q : Int → Mm → Prop) (v1 : Int) (v2 : Int) (v3 : Int) (v4 : Int) : Nat → Int → Int → Int → Mm → Prop
  | 0, _, _, _, _ => False
  | f + 1, v5, v6, v7, M => (inR v7) ∧
    (if v7 < 4 then
      Bd (wX6_portion v7 v2 v3 M) (fun r5 M6 =>
      (inR r5) ∧
      (inR v4) ∧
      (inR (Int.tmod r5 100)) ∧
      (inR (Int.tmod v4 100)) ∧
      (if (Int.tmod r5 100) ≤ (Int.tmod v4 100) then
        (if (Int.tmod r5 100) = (Int.tmod v4 100) then
          (inR v1) ∧
          (if v7 < v1 then
            (wX6_shareOf_23 Q v1 v2 v3 v4 f) (v5 - (Int.tdiv r5 100)) (v6 + 1) (v7 + 1) M6
          else
            (wX6_shareOf_23 Q v1 v2 v3 v4 f) (v5 - (Int.tdiv r5 100)) v6 (v7 + 1) M6)
        else
          (wX6_shareOf_23 Q v1 v2 v3 v4 f) (v5 - (Int.tdiv r5 100)) v6 (v7 + 1) M6)
      else
        (wX6_shareOf_23 Q v1 v2 v3 v4 f) (v5 - (Int.tdiv r5 100)) (v6 + 1) (v7 + 1) M6))
    else
      wX6_shareOf_90 Q v4 v5 v6 M)
set_option maxHeartbeats 4000000 in
theorem s_wX6_shareOf_23 {Γ : Cx} {h : Nat} (hΓ : Ok Γ cX6_shareOf RX6 9 h 0 0) (hh : 3 ≤ h) (hr : (cxm Γ).sig.returnType = (some .int)) {Q : Int → Mm → Prop} {v1 v2 v3 v4 : Int}   : ∀ (f : Nat) (v5 : Int) (v6 : Int) (v7 : Int) (M : Mm), wX6_shareOf_23 Q v1 v2 v3 v4 f v5 v6 v7 M → Wa Γ 9 (Kf Γ (QI Q) 0 0) 0 0 23 [(0, aR 72), (1, aI v1), (2, aI v2), (3, aI v3), (4, aI v4), (5, aI v5), (6, aI v6), (7, aI v7)] [] (NC, RF, M) := by
  intro f
  induction f with
  | zero => intro v5 v6 v7 M h; exact h.elim
  | succ f ih =>
    intro v5 v6 v7 M h
    unfold wX6_shareOf_23 at h
    refine a_iload hΓ 7 dX6_shareOf_23 rfl ?_
    refine a_iconst hΓ dX6_shareOf_25 ?_
    obtain ⟨g1, h⟩ := h
    refine a_icmp_ge (tgt := 90) hΓ g1 (inRl (by decide)) dX6_shareOf_26 (by decide) (fun c2 => ?_) (fun c2 => ?_)
    · rw [if_pos c2] at h
      refine a_aload_n hΓ 0 dX6_shareOf_29 rfl rfl ?_
      refine a_iload hΓ 7 dX6_shareOf_30 rfl ?_
      refine a_iload_n hΓ 2 dX6_shareOf_32 rfl rfl ?_
      refine a_iload_n hΓ 3 dX6_shareOf_33 rfl rfl ?_
      obtain ⟨P3, q4, h⟩ := h
      refine n_callV (c := 72) (av := [aI v7, aI v2, aI v3]) (st := []) hΓ (ct_wX6_portion _ _ v7 v2 v3 M P3 q4) my_X6_portion ml_RX6_130 ni_X6_portion kd_72 rfl lz_72 rfl (Nat.le_trans (by decide) hh) (by decide) (Nat.le_of_ble_eq_true rfl) rfl dX6_shareOf_34 (fun v Z' hq => ?_)
      obtain ⟨r5, M6, rfl, rfl, hq⟩ := hq
      have h := h r5 M6 hq
      dsimp only at h
      refine a_istore (ls' := [(8, aI r5), (0, aR 72), (1, aI v1), (2, aI v2), (3, aI v3), (4, aI v4), (5, aI v5), (6, aI v6), (7, aI v7)]) hΓ dX6_shareOf_37 (by decide) rfl ?_
      refine a_iload hΓ 6 dX6_shareOf_39 rfl ?_
      refine a_iload hΓ 0 dX6_shareOf_41 rfl ?_
      refine a_bipush hΓ dX6_shareOf_43 (by decide) ?_
      obtain ⟨g7, h⟩ := h
      refine a_idiv hΓ g7 (inRl (by decide)) (by decide) dX6_shareOf_45 ?_
      refine a_isub hΓ dX6_shareOf_46 ?_
      refine a_istore (ls' := [(5, aI (v5 - (Int.tdiv r5 100))), (8, aI r5), (0, aR 72), (1, aI v1), (2, aI v2), (3, aI v3), (4, aI v4), (6, aI v6), (7, aI v7)]) hΓ dX6_shareOf_47 (by decide) rfl ?_
      refine a_iload hΓ 1 dX6_shareOf_49 rfl ?_
      refine a_bipush hΓ dX6_shareOf_51 (by decide) ?_
      refine a_irem hΓ g7 (inRl (by decide)) (by decide) dX6_shareOf_53 ?_
      refine a_iload hΓ 6 dX6_shareOf_54 rfl ?_
      refine a_bipush hΓ dX6_shareOf_56 (by decide) ?_
      obtain ⟨g8, h⟩ := h
      refine a_irem hΓ g8 (inRl (by decide)) (by decide) dX6_shareOf_58 ?_
      obtain ⟨g9, h⟩ := h
      obtain ⟨g10, h⟩ := h
      refine a_icmp_gt (tgt := 81) hΓ g9 g10 dX6_shareOf_59 (by decide) (fun c11 => ?_) (fun c11 => ?_)
      · rw [if_pos c11] at h
        refine a_iload hΓ 1 dX6_shareOf_62 rfl ?_
        refine a_bipush hΓ dX6_shareOf_64 (by decide) ?_
        refine a_irem hΓ g7 (inRl (by decide)) (by decide) dX6_shareOf_66 ?_
        refine a_iload hΓ 6 dX6_shareOf_67 rfl ?_
        refine a_bipush hΓ dX6_shareOf_69 (by decide) ?_
        refine a_irem hΓ g8 (inRl (by decide)) (by decide) dX6_shareOf_71 ?_
        refine a_icmp_ne (tgt := 84) hΓ g9 g10 dX6_shareOf_72 (by decide) (fun c12 => ?_) (fun c12 => ?_)
        · rw [if_pos c12] at h
          refine a_iload hΓ 8 dX6_shareOf_75 rfl ?_
          refine a_iload_n hΓ 3 dX6_shareOf_77 rfl rfl ?_
          obtain ⟨g13, h⟩ := h
          refine a_icmp_ge (tgt := 84) hΓ g1 g13 dX6_shareOf_78 (by decide) (fun c14 => ?_) (fun c14 => ?_)
          · rw [if_pos c14] at h
            refine a_iinc (ls' := [(6, aI (v6 + 1)), (5, aI (v5 - (Int.tdiv r5 100))), (8, aI r5), (0, aR 72), (1, aI v1), (2, aI v2), (3, aI v3), (4, aI v4), (7, aI v7)]) hΓ 7 dX6_shareOf_81 rfl (by decide) rfl ?_
            refine a_iinc (ls' := [(7, aI (v7 + 1)), (6, aI (v6 + 1)), (5, aI (v5 - (Int.tdiv r5 100))), (8, aI r5), (0, aR 72), (1, aI v1), (2, aI v2), (3, aI v3), (4, aI v4)]) hΓ 8 dX6_shareOf_84 rfl (by decide) rfl ?_
            refine a_goto (tgt := 23) hΓ dX6_shareOf_87 (by decide) ?_
            refine a_sub (ls' := [(0, aR 72), (1, aI v1), (2, aI v2), (3, aI v3), (4, aI v4), (5, aI (v5 - (Int.tdiv r5 100))), (6, aI (v6 + 1)), (7, aI (v7 + 1))]) [4, 5, 6, 7, 8, 2, 1, 0] rfl ?_
            exact ih (v5 - (Int.tdiv r5 100)) (v6 + 1) (v7 + 1) M6 h
          · rw [if_neg c14] at h
            refine a_iinc (ls' := [(7, aI (v7 + 1)), (5, aI (v5 - (Int.tdiv r5 100))), (8, aI r5), (0, aR 72), (1, aI v1), (2, aI v2), (3, aI v3), (4, aI v4), (6, aI v6)]) hΓ 8 dX6_shareOf_84 rfl (by decide) rfl ?_
            refine a_goto (tgt := 23) hΓ dX6_shareOf_87 (by decide) ?_
            refine a_sub (ls' := [(0, aR 72), (1, aI v1), (2, aI v2), (3, aI v3), (4, aI v4), (5, aI (v5 - (Int.tdiv r5 100))), (6, aI v6), (7, aI (v7 + 1))]) [3, 4, 5, 6, 7, 1, 8, 0] rfl ?_
            exact ih (v5 - (Int.tdiv r5 100)) v6 (v7 + 1) M6 h
        · rw [if_neg c12] at h
          refine a_iinc (ls' := [(7, aI (v7 + 1)), (5, aI (v5 - (Int.tdiv r5 100))), (8, aI r5), (0, aR 72), (1, aI v1), (2, aI v2), (3, aI v3), (4, aI v4), (6, aI v6)]) hΓ 8 dX6_shareOf_84 rfl (by decide) rfl ?_
          refine a_goto (tgt := 23) hΓ dX6_shareOf_87 (by decide) ?_
          refine a_sub (ls' := [(0, aR 72), (1, aI v1), (2, aI v2), (3, aI v3), (4, aI v4), (5, aI (v5 - (Int.tdiv r5 100))), (6, aI v6), (7, aI (v7 + 1))]) [3, 4, 5, 6, 7, 1, 8, 0] rfl ?_
          exact ih (v5 - (Int.tdiv r5 100)) v6 (v7 + 1) M6 h
      · rw [if_neg c11] at h
        refine a_iinc (ls' := [(6, aI (v6 + 1)), (5, aI (v5 - (Int.tdiv r5 100))), (8, aI r5), (0, aR 72), (1, aI v1), (2, aI v2), (3, aI v3), (4, aI v4), (7, aI v7)]) hΓ 7 dX6_shareOf_81 rfl (by decide) rfl ?_
        refine a_iinc (ls' := [(7, aI (v7 + 1)), (6, aI (v6 + 1)), (5, aI (v5 - (Int.tdiv r5 100))), (8, aI r5), (0, aR 72), (1, aI v1), (2, aI v2), (3, aI v3), (4, aI v4)]) hΓ 8 dX6_shareOf_84 rfl (by decide) rfl ?_
        refine a_goto (tgt := 23) hΓ dX6_shareOf_87 (by decide) ?_
        refine a_sub (ls' := [(0, aR 72), (1, aI v1), (2, aI v2), (3, aI v3), (4, aI v4), (5, aI (v5 - (Int.tdiv r5 100))), (6, aI (v6 + 1)), (7, aI (v7 + 1))]) [4, 5, 6, 7, 8, 2, 1, 0] rfl ?_
        exact ih (v5 - (Int.tdiv r5 100)) (v6 + 1) (v7 + 1) M6 h
    · rw [if_neg c2] at h
      refine a_sub (ls' := [(4, aI v4), (5, aI v5), (6, aI v6)]) [4, 5, 6] rfl ?_
      exact s_wX6_shareOf_90 hΓ (Nat.le_trans (by decide) hh) hr  M h
def wX6_shareOf (v1 : Int) (v2 : Int) (v3 : Int) (M : Mm) (Q : Int → Mm → Prop) : Prop :=
    Bd (wX6_portion v1 v2 v3 M) (fun r3 M4 =>
    Bd (wX6_fuel v2 v3 M4) (fun r7 M8 =>
    ∃ n, wX6_shareOf_23 Q v1 v2 v3 r3 n r7 0 0 M8))
set_option maxHeartbeats 4000000 in
theorem s_wX6_shareOf {Γ : Cx} {h : Nat} (hΓ : Ok Γ cX6_shareOf RX6 9 h 0 0) (hh : 3 ≤ h) (hr : (cxm Γ).sig.returnType = (some .int)) {Q : Int → Mm → Prop} (v1 : Int) (v2 : Int) (v3 : Int) (M : Mm) (h : wX6_shareOf v1 v2 v3 M Q) : Wa Γ 9 (Kf Γ (QI Q) 0 0) 0 0 0 [(0, aR 72), (1, aI v1), (2, aI v2), (3, aI v3)] [] (NC, RF, M) := by
  unfold wX6_shareOf at h
  refine a_aload_n hΓ 0 dX6_shareOf_0 rfl rfl ?_
  refine a_iload_n hΓ 1 dX6_shareOf_1 rfl rfl ?_
  refine a_iload_n hΓ 2 dX6_shareOf_2 rfl rfl ?_
  refine a_iload_n hΓ 3 dX6_shareOf_3 rfl rfl ?_
  obtain ⟨P1, q2, h⟩ := h
  refine n_callV (c := 72) (av := [aI v1, aI v2, aI v3]) (st := []) hΓ (ct_wX6_portion _ _ v1 v2 v3 M P1 q2) my_X6_portion ml_RX6_130 ni_X6_portion kd_72 rfl lz_72 rfl (Nat.le_trans (by decide) hh) (by decide) (Nat.le_of_ble_eq_true rfl) rfl dX6_shareOf_4 (fun v Z' hq => ?_)
  obtain ⟨r3, M4, rfl, rfl, hq⟩ := hq
  have h := h r3 M4 hq
  dsimp only at h
  refine a_istore (ls' := [(4, aI r3), (0, aR 72), (1, aI v1), (2, aI v2), (3, aI v3)]) hΓ dX6_shareOf_7 (by decide) rfl ?_
  refine a_aload_n hΓ 1 dX6_shareOf_9 rfl rfl ?_
  refine a_iload_n hΓ 3 dX6_shareOf_10 rfl rfl ?_
  refine a_iload_n hΓ 4 dX6_shareOf_11 rfl rfl ?_
  obtain ⟨P5, q6, h⟩ := h
  refine n_callV (c := 72) (av := [aI v2, aI v3]) (st := []) hΓ (ct_wX6_fuel _ _ v2 v3 M4 P5 q6) my_X6_fuel ml_RX6_161 ni_X6_fuel kd_72 rfl lz_72 rfl (Nat.le_trans (by decide) hh) (by decide) (Nat.le_of_ble_eq_true rfl) rfl dX6_shareOf_12 (fun v Z' hq => ?_)
  obtain ⟨r7, M8, rfl, rfl, hq⟩ := hq
  have h := h r7 M8 hq
  dsimp only at h
  refine a_istore (ls' := [(5, aI r7), (4, aI r3), (0, aR 72), (1, aI v1), (2, aI v2), (3, aI v3)]) hΓ dX6_shareOf_15 (by decide) rfl ?_
  refine a_iconst hΓ dX6_shareOf_17 ?_
  refine a_istore (ls' := [(6, aI 0), (5, aI r7), (4, aI r3), (0, aR 72), (1, aI v1), (2, aI v2), (3, aI v3)]) hΓ dX6_shareOf_18 (by decide) rfl ?_
  refine a_iconst hΓ dX6_shareOf_20 ?_
  refine a_istore (ls' := [(7, aI 0), (6, aI 0), (5, aI r7), (4, aI r3), (0, aR 72), (1, aI v1), (2, aI v2), (3, aI v3)]) hΓ dX6_shareOf_21 (by decide) rfl ?_
  refine a_sub (ls' := [(0, aR 72), (1, aI v1), (2, aI v2), (3, aI v3), (4, aI r3), (5, aI r7), (6, aI 0), (7, aI 0)]) [4, 5, 6, 7, 3, 2, 1, 0] rfl ?_
  obtain ⟨f9, h⟩ := h
  exact s_wX6_shareOf_23 hΓ (Nat.le_trans (by decide) hh) hr  f9 r7 0 0 M8 h
theorem ct_wX6_shareOf (l : Launch) (g : Gp) (v1 : Int) (v2 : Int) (v3 : Int) (M : Mm) (Q : Int → Mm → Prop) (h : wX6_shareOf v1 v2 v3 M Q) : Ct l g yX6_shareOf cX6_shareOf 9 (some .int) 3 0 0 [aR 72, aI v1, aI v2, aI v3] (NC, RF, M) (QI Q) :=
  ct_of (by decide) (Nat.le_of_ble_eq_true rfl) (fun Γ hg hl hr _ hΓ => by subst hg; subst hl; exact s_wX6_shareOf hΓ (by decide) hr v1 v2 v3 M h)
def wX11_share (v1 : Int) (v2 : Int) (v3 : Int) (v4 : Int) (M : Mm) (Q : Int → Mm → Prop) : Prop :=
    Bd (wX11_isShip v1 M) (fun r3 M4 =>
    (inR r3) ∧
    (if r3 = 0 then
      Q (-1) M4
    else
      Bd (wX11_isDay v2 M4) (fun r9 M10 =>
      (inR r9) ∧
      (if r9 = 0 then
        Q (-1) M10
      else
        Bd (wX11_within v3 0 1000 M10) (fun r15 M16 =>
        (inR r15) ∧
        (if r15 = 0 then
          Q (-1) M16
        else
          Bd (wX11_within v4 0 4 M16) (fun r21 M22 =>
          (inR r21) ∧
          (if r21 = 0 then
            Q (-1) M22
          else
            Bv (wX6_load v1 M22) (fun M28 =>
            (inR v4) ∧
            (if v4 = 4 then
              Bd (wX6_fuel v2 v3 M28) (fun r33 M34 =>
              Q r33 M34)
            else
              Bd (wX6_shareOf v4 v2 v3 M28) (fun r37 M38 =>
              Q r37 M38)))))))))))
set_option maxHeartbeats 4000000 in
theorem s_wX11_share {Γ : Cx} {h : Nat} (hΓ : Ok Γ cX11_share RX11 5 h 0 0) (hh : 5 ≤ h) (hr : (cxm Γ).sig.returnType = (some .int)) {Q : Int → Mm → Prop} (v1 : Int) (v2 : Int) (v3 : Int) (v4 : Int) (M : Mm) (h : wX11_share v1 v2 v3 v4 M Q) : Wa Γ 5 (Kf Γ (QI Q) 0 0) 0 0 0 [(0, aR 0), (1, aI v1), (2, aI v2), (3, aI v3), (4, aI v4)] [] (NC, RF, M) := by
  unfold wX11_share at h
  refine a_aload_n hΓ 0 dX11_share_0 rfl rfl ?_
  refine a_iload_n hΓ 1 dX11_share_1 rfl rfl ?_
  obtain ⟨P1, q2, h⟩ := h
  refine n_callV (c := 0) (av := [aI v1]) (st := []) hΓ (ct_wX11_isShip _ _ v1 M P1 q2) my_X11_isShip ml_RX11_106 ni_X11_isShip kd_0 rfl lz_0 rfl (Nat.le_trans (by decide) hh) (by decide) (Nat.le_of_ble_eq_true rfl) rfl dX11_share_2 (fun v Z' hq => ?_)
  obtain ⟨r3, M4, rfl, rfl, hq⟩ := hq
  have h := h r3 M4 hq
  dsimp only at h
  obtain ⟨g5, h⟩ := h
  refine a_if_eq (tgt := 36) hΓ g5 dX11_share_5 (by decide) (fun c6 => ?_) (fun c6 => ?_)
  · rw [if_pos c6] at h
    refine a_iconst hΓ dX11_share_36 ?_
    exact a_iret hΓ hr dX11_share_37 ⟨_, _, rfl, rfl, h⟩
  · rw [if_neg c6] at h
    refine a_iload_n hΓ 2 dX11_share_8 rfl rfl ?_
    obtain ⟨P7, q8, h⟩ := h
    refine n_callS (av := [aI v2]) (st := []) hΓ (ct_wX11_isDay _ _ v2 M4 P7 q8) my_X11_isDay ml_RX11_102 rfl (Nat.le_trans (by decide) hh) (by decide) (Nat.le_of_ble_eq_true rfl) rfl dX11_share_9 (fun v Z' hq => ?_)
    obtain ⟨r9, M10, rfl, rfl, hq⟩ := hq
    have h := h r9 M10 hq
    dsimp only at h
    obtain ⟨g11, h⟩ := h
    refine a_if_eq (tgt := 36) hΓ g11 dX11_share_12 (by decide) (fun c12 => ?_) (fun c12 => ?_)
    · rw [if_pos c12] at h
      refine a_iconst hΓ dX11_share_36 ?_
      exact a_iret hΓ hr dX11_share_37 ⟨_, _, rfl, rfl, h⟩
    · rw [if_neg c12] at h
      refine a_iload_n hΓ 3 dX11_share_15 rfl rfl ?_
      refine a_iconst hΓ dX11_share_16 ?_
      refine a_sipush hΓ dX11_share_17 (by decide) ?_
      obtain ⟨P13, q14, h⟩ := h
      refine n_callS (av := [aI v3, aI 0, aI 1000]) (st := []) hΓ (ct_wX11_within _ _ v3 0 1000 M10 P13 q14) my_X11_within ml_RX11_79 rfl (Nat.le_trans (by decide) hh) (by decide) (Nat.le_of_ble_eq_true rfl) rfl dX11_share_20 (fun v Z' hq => ?_)
      obtain ⟨r15, M16, rfl, rfl, hq⟩ := hq
      have h := h r15 M16 hq
      dsimp only at h
      obtain ⟨g17, h⟩ := h
      refine a_if_eq (tgt := 36) hΓ g17 dX11_share_23 (by decide) (fun c18 => ?_) (fun c18 => ?_)
      · rw [if_pos c18] at h
        refine a_iconst hΓ dX11_share_36 ?_
        exact a_iret hΓ hr dX11_share_37 ⟨_, _, rfl, rfl, h⟩
      · rw [if_neg c18] at h
        refine a_iload hΓ 4 dX11_share_26 rfl ?_
        refine a_iconst hΓ dX11_share_28 ?_
        refine a_iconst hΓ dX11_share_29 ?_
        obtain ⟨P19, q20, h⟩ := h
        refine n_callS (av := [aI v4, aI 0, aI 4]) (st := []) hΓ (ct_wX11_within _ _ v4 0 4 M16 P19 q20) my_X11_within ml_RX11_79 rfl (Nat.le_trans (by decide) hh) (by decide) (Nat.le_of_ble_eq_true rfl) rfl dX11_share_30 (fun v Z' hq => ?_)
        obtain ⟨r21, M22, rfl, rfl, hq⟩ := hq
        have h := h r21 M22 hq
        dsimp only at h
        obtain ⟨g23, h⟩ := h
        refine a_if_ne (tgt := 38) hΓ g23 dX11_share_33 (by decide) (fun c24 => ?_) (fun c24 => ?_)
        · rw [if_pos c24] at h
          refine a_iconst hΓ dX11_share_36 ?_
          exact a_iret hΓ hr dX11_share_37 ⟨_, _, rfl, rfl, h⟩
        · rw [if_neg c24] at h
          refine a_aload_n hΓ 0 dX11_share_38 rfl rfl ?_
          refine n_getR hΓ fl_RX11_29 cl_11 kd_0 lz_0 dX11_share_39 ft_11_3 rf_0_3 ?_
          refine a_iload_n hΓ 1 dX11_share_42 rfl rfl ?_
          obtain ⟨P25, q26, h⟩ := h
          refine n_callV (c := 72) (av := [aI v1]) (st := []) hΓ (ct_wX6_load _ _ v1 M22 P25 q26) my_X6_load ml_RX11_139 ni_X6_load kd_72 rfl lz_72 rfl (Nat.le_trans (by decide) hh) (by decide) (Nat.le_of_ble_eq_true rfl) rfl dX11_share_43 (fun v Z' hq => ?_)
          obtain ⟨M28, rfl, rfl, hq⟩ := hq
          have h := h M28 hq
          dsimp only at h
          refine a_iload hΓ 4 dX11_share_46 rfl ?_
          refine a_iconst hΓ dX11_share_48 ?_
          obtain ⟨g29, h⟩ := h
          refine a_icmp_ne (tgt := 64) hΓ g29 (inRl (by decide)) dX11_share_49 (by decide) (fun c30 => ?_) (fun c30 => ?_)
          · rw [if_pos c30] at h
            refine a_aload_n hΓ 0 dX11_share_52 rfl rfl ?_
            refine n_getR hΓ fl_RX11_29 cl_11 kd_0 lz_0 dX11_share_53 ft_11_3 rf_0_3 ?_
            refine a_iload_n hΓ 2 dX11_share_56 rfl rfl ?_
            refine a_iload_n hΓ 3 dX11_share_57 rfl rfl ?_
            obtain ⟨P31, q32, h⟩ := h
            refine n_callV (c := 72) (av := [aI v2, aI v3]) (st := []) hΓ (ct_wX6_fuel _ _ v2 v3 M28 P31 q32) my_X6_fuel ml_RX11_189 ni_X6_fuel kd_72 rfl lz_72 rfl (Nat.le_trans (by decide) hh) (by decide) (Nat.le_of_ble_eq_true rfl) rfl dX11_share_58 (fun v Z' hq => ?_)
            obtain ⟨r33, M34, rfl, rfl, hq⟩ := hq
            have h := h r33 M34 hq
            dsimp only at h
            refine a_goto (tgt := 75) hΓ dX11_share_61 (by decide) ?_
            exact a_iret hΓ hr dX11_share_75 ⟨_, _, rfl, rfl, h⟩
          · rw [if_neg c30] at h
            refine a_aload_n hΓ 0 dX11_share_64 rfl rfl ?_
            refine n_getR hΓ fl_RX11_29 cl_11 kd_0 lz_0 dX11_share_65 ft_11_3 rf_0_3 ?_
            refine a_iload hΓ 4 dX11_share_68 rfl ?_
            refine a_iload_n hΓ 2 dX11_share_70 rfl rfl ?_
            refine a_iload_n hΓ 3 dX11_share_71 rfl rfl ?_
            obtain ⟨P35, q36, h⟩ := h
            refine n_callV (c := 72) (av := [aI v4, aI v2, aI v3]) (st := []) hΓ (ct_wX6_shareOf _ _ v4 v2 v3 M28 P35 q36) my_X6_shareOf ml_RX11_193 ni_X6_shareOf kd_72 rfl lz_72 rfl (Nat.le_trans (by decide) hh) (by decide) (Nat.le_of_ble_eq_true rfl) rfl dX11_share_72 (fun v Z' hq => ?_)
            obtain ⟨r37, M38, rfl, rfl, hq⟩ := hq
            have h := h r37 M38 hq
            dsimp only at h
            exact a_iret hΓ hr dX11_share_75 ⟨_, _, rfl, rfl, h⟩
theorem ct_wX11_share (l : Launch) (g : Gp) (v1 : Int) (v2 : Int) (v3 : Int) (v4 : Int) (M : Mm) (Q : Int → Mm → Prop) (h : wX11_share v1 v2 v3 v4 M Q) : Ct l g yX11_share cX11_share 5 (some .int) 5 0 0 [aR 0, aI v1, aI v2, aI v3, aI v4] (NC, RF, M) (QI Q) :=
  ct_of (by decide) (Nat.le_of_ble_eq_true rfl) (fun Γ hg hl hr _ hΓ => by subst hg; subst hl; exact s_wX11_share hΓ (by decide) hr v1 v2 v3 v4 M h)
def wX6_counting_56 (Q : Int → Mm → Prop) (v3 : Int) (M : Mm) : Prop :=
    Q (landI v3 (M 72 8)) M
set_option maxHeartbeats 4000000 in
theorem s_wX6_counting_56 {Γ : Cx} {h : Nat} (hΓ : Ok Γ cX6_counting RX6 5 h 0 0) (hh : 1 ≤ h) (hr : (cxm Γ).sig.returnType = (some .int)) {Q : Int → Mm → Prop} {v3 : Int}   (M : Mm) (h : wX6_counting_56 Q v3 M) : Wa Γ 5 (Kf Γ (QI Q) 0 0) 0 0 56 [(0, aR 72), (3, aI v3)] [] (NC, RF, M) := by
  unfold wX6_counting_56 at h
  refine a_iload_n hΓ 1 dX6_counting_56 rfl rfl ?_
  refine a_aload_n hΓ 0 dX6_counting_57 rfl rfl ?_
  refine n_getI (x := (M 72 8)) hΓ fl_RX6_105 cl_6 kd_72 lz_72 dX6_counting_58 (Or.inl ft_6_8) rfl ?_
  refine a_iand hΓ dX6_counting_61 ?_
  exact a_iret hΓ hr dX6_counting_62 ⟨_, _, rfl, rfl, h⟩
def wX6_counting_13 (Q : Int → Mm → Prop) (v1 : Int) : Nat → Int → Int → Mm → Prop
  | 0, _, _, _ => False
  | f + 1, v3, v4, M => (inR v4) ∧
    (inR (M 15 0)) ∧
    (if v4 < (M 15 0) then
      (0 ≤ v4 ∧ v4 < 24) ∧
      (inR (M 21 v4)) ∧
      (inR v1) ∧
      (if (M 21 v4) ≤ v1 then
        (inR (M 23 v4)) ∧
        (if (M 23 v4) = 0 then
          (wX6_counting_13 Q v1 f) (lorI v3 (shlI 1 v4)) (v4 + 1) M
        else
          (wX6_counting_13 Q v1 f) v3 (v4 + 1) M)
      else
        (wX6_counting_13 Q v1 f) v3 (v4 + 1) M)
    else
      wX6_counting_56 Q v3 M)
set_option maxHeartbeats 4000000 in
theorem s_wX6_counting_13 {Γ : Cx} {h : Nat} (hΓ : Ok Γ cX6_counting RX6 5 h 0 0) (hh : 1 ≤ h) (hr : (cxm Γ).sig.returnType = (some .int)) {Q : Int → Mm → Prop} {v1 : Int}   : ∀ (f : Nat) (v3 : Int) (v4 : Int) (M : Mm), wX6_counting_13 Q v1 f v3 v4 M → Wa Γ 5 (Kf Γ (QI Q) 0 0) 0 0 13 [(0, aR 72), (1, aI v1), (2, aR 15), (3, aI v3), (4, aI v4)] [] (NC, RF, M) := by
  intro f
  induction f with
  | zero => intro v3 v4 M h; exact h.elim
  | succ f ih =>
    intro v3 v4 M h
    unfold wX6_counting_13 at h
    refine a_iload hΓ 4 dX6_counting_13 rfl ?_
    refine a_aload_n hΓ 2 dX6_counting_15 rfl rfl ?_
    refine n_getI (x := (M 15 0)) hΓ fl_RX6_108 cl_4 kd_15 lz_15 dX6_counting_16 (Or.inl ft_4_0) rfl ?_
    obtain ⟨g1, h⟩ := h
    obtain ⟨g2, h⟩ := h
    refine a_icmp_ge (tgt := 56) hΓ g1 g2 dX6_counting_19 (by decide) (fun c3 => ?_) (fun c3 => ?_)
    · rw [if_pos c3] at h
      refine a_aload_n hΓ 2 dX6_counting_22 rfl rfl ?_
      refine n_getR hΓ fl_RX6_146 cl_4 kd_15 lz_15 dX6_counting_23 ft_4_6 rf_15_6 ?_
      refine a_iload hΓ 4 dX6_counting_26 rfl ?_
      obtain ⟨g4, h⟩ := h
      refine n_iald (x := (M 21 v4)) hΓ dX6_counting_28 kd_21 lz_21 g4 rfl ?_
      refine a_iload_n hΓ 1 dX6_counting_29 rfl rfl ?_
      obtain ⟨g5, h⟩ := h
      obtain ⟨g6, h⟩ := h
      refine a_icmp_gt (tgt := 50) hΓ g5 g6 dX6_counting_30 (by decide) (fun c7 => ?_) (fun c7 => ?_)
      · rw [if_pos c7] at h
        refine a_aload_n hΓ 2 dX6_counting_33 rfl rfl ?_
        refine n_getR hΓ fl_RX6_149 cl_4 kd_15 lz_15 dX6_counting_34 ft_4_8 rf_15_8 ?_
        refine a_iload hΓ 4 dX6_counting_37 rfl ?_
        refine n_bald (x := (M 23 v4)) hΓ dX6_counting_39 kd_23 (Or.inl rfl) lz_23 g4 rfl ?_
        obtain ⟨g8, h⟩ := h
        refine a_if_ne (tgt := 50) hΓ g8 dX6_counting_40 (by decide) (fun c9 => ?_) (fun c9 => ?_)
        · rw [if_pos c9] at h
          refine a_iload_n hΓ 3 dX6_counting_43 rfl rfl ?_
          refine a_iconst hΓ dX6_counting_44 ?_
          refine a_iload hΓ 4 dX6_counting_45 rfl ?_
          refine a_ishl hΓ dX6_counting_47 ?_
          refine a_ior hΓ dX6_counting_48 ?_
          refine a_istore_n (ls' := [(3, aI (lorI v3 (shlI 1 v4))), (0, aR 72), (1, aI v1), (2, aR 15), (4, aI v4)]) hΓ dX6_counting_49 rfl (by decide) rfl ?_
          refine a_iinc (ls' := [(4, aI (v4 + 1)), (3, aI (lorI v3 (shlI 1 v4))), (0, aR 72), (1, aI v1), (2, aR 15)]) hΓ 4 dX6_counting_50 rfl (by decide) rfl ?_
          refine a_goto (tgt := 13) hΓ dX6_counting_53 (by decide) ?_
          refine a_sub (ls' := [(0, aR 72), (1, aI v1), (2, aR 15), (3, aI (lorI v3 (shlI 1 v4))), (4, aI (v4 + 1))]) [2, 3, 4, 1, 0] rfl ?_
          exact ih (lorI v3 (shlI 1 v4)) (v4 + 1) M h
        · rw [if_neg c9] at h
          refine a_iinc (ls' := [(4, aI (v4 + 1)), (0, aR 72), (1, aI v1), (2, aR 15), (3, aI v3)]) hΓ 4 dX6_counting_50 rfl (by decide) rfl ?_
          refine a_goto (tgt := 13) hΓ dX6_counting_53 (by decide) ?_
          refine a_sub (ls' := [(0, aR 72), (1, aI v1), (2, aR 15), (3, aI v3), (4, aI (v4 + 1))]) [1, 2, 3, 4, 0] rfl ?_
          exact ih v3 (v4 + 1) M h
      · rw [if_neg c7] at h
        refine a_iinc (ls' := [(4, aI (v4 + 1)), (0, aR 72), (1, aI v1), (2, aR 15), (3, aI v3)]) hΓ 4 dX6_counting_50 rfl (by decide) rfl ?_
        refine a_goto (tgt := 13) hΓ dX6_counting_53 (by decide) ?_
        refine a_sub (ls' := [(0, aR 72), (1, aI v1), (2, aR 15), (3, aI v3), (4, aI (v4 + 1))]) [1, 2, 3, 4, 0] rfl ?_
        exact ih v3 (v4 + 1) M h
    · rw [if_neg c3] at h
      refine a_sub (ls' := [(0, aR 72), (3, aI v3)]) [0, 3] rfl ?_
      exact s_wX6_counting_56 hΓ (Nat.le_trans (by decide) hh) hr  M h
def wX6_counting (v1 : Int) (M : Mm) (Q : Int → Mm → Prop) : Prop :=
    ∃ n, wX6_counting_13 Q v1 n 0 0 M
set_option maxHeartbeats 4000000 in
theorem s_wX6_counting {Γ : Cx} {h : Nat} (hΓ : Ok Γ cX6_counting RX6 5 h 0 0) (hh : 1 ≤ h) (hr : (cxm Γ).sig.returnType = (some .int)) {Q : Int → Mm → Prop} (v1 : Int) (M : Mm) (h : wX6_counting v1 M Q) : Wa Γ 5 (Kf Γ (QI Q) 0 0) 0 0 0 [(0, aR 72), (1, aI v1)] [] (NC, RF, M) := by
  unfold wX6_counting at h
  refine a_aload_n hΓ 0 dX6_counting_0 rfl rfl ?_
  refine n_getR hΓ fl_RX6_43 cl_6 kd_72 lz_72 dX6_counting_1 ft_6_0 rf_72_0 ?_
  refine n_getR hΓ fl_RX6_101 cl_0 kd_1 lz_1 dX6_counting_4 ft_0_14 rf_1_14 ?_
  refine a_astore_n (ls' := [(2, aR 15), (0, aR 72), (1, aI v1)]) hΓ dX6_counting_7 rfl (by decide) rfl ?_
  refine a_iconst hΓ dX6_counting_8 ?_
  refine a_istore_n (ls' := [(3, aI 0), (2, aR 15), (0, aR 72), (1, aI v1)]) hΓ dX6_counting_9 rfl (by decide) rfl ?_
  refine a_iconst hΓ dX6_counting_10 ?_
  refine a_istore (ls' := [(4, aI 0), (3, aI 0), (2, aR 15), (0, aR 72), (1, aI v1)]) hΓ dX6_counting_11 (by decide) rfl ?_
  refine a_sub (ls' := [(0, aR 72), (1, aI v1), (2, aR 15), (3, aI 0), (4, aI 0)]) [3, 4, 2, 1, 0] rfl ?_
  obtain ⟨f1, h⟩ := h
  exact s_wX6_counting_13 hΓ (Nat.le_trans (by decide) hh) hr  f1 0 0 M h
theorem ct_wX6_counting (l : Launch) (g : Gp) (v1 : Int) (M : Mm) (Q : Int → Mm → Prop) (h : wX6_counting v1 M Q) : Ct l g yX6_counting cX6_counting 5 (some .int) 1 0 0 [aR 72, aI v1] (NC, RF, M) (QI Q) :=
  ct_of (by decide) (Nat.le_of_ble_eq_true rfl) (fun Γ hg hl hr _ hΓ => by subst hg; subst hl; exact s_wX6_counting hΓ (by decide) hr v1 M h)
def wX6_isBound_2 (Q : Int → Mm → Prop) : Nat → Int → Mm → Prop
  | 0, _, _ => False
  | f + 1, v1, M => (inR v1) ∧
    (if v1 < 120 then
      (0 ≤ v1 ∧ v1 < 120) ∧
      (inR (M 81 v1)) ∧
      (inR (M 82 v1)) ∧
      (if (M 81 v1) ≤ (M 82 v1) then
        (wX6_isBound_2 Q f) (v1 + 1) M
      else
        Q 0 M)
    else
      Q 1 M)
set_option maxHeartbeats 4000000 in
theorem s_wX6_isBound_2 {Γ : Cx} {h : Nat} (hΓ : Ok Γ cX6_isBound RX6 2 h 0 0) (hh : 1 ≤ h) (hr : (cxm Γ).sig.returnType = (some .boolean)) {Q : Int → Mm → Prop}   : ∀ (f : Nat) (v1 : Int) (M : Mm), wX6_isBound_2 Q  f v1 M → Wa Γ 2 (Kf Γ (QI Q) 0 0) 0 0 2 [(0, aR 72), (1, aI v1)] [] (NC, RF, M) := by
  intro f
  induction f with
  | zero => intro v1 M h; exact h.elim
  | succ f ih =>
    intro v1 M h
    unfold wX6_isBound_2 at h
    refine a_iload_n hΓ 1 dX6_isBound_2 rfl rfl ?_
    refine a_bipush hΓ dX6_isBound_3 (by decide) ?_
    obtain ⟨g1, h⟩ := h
    refine a_icmp_ge (tgt := 31) hΓ g1 (inRl (by decide)) dX6_isBound_5 (by decide) (fun c2 => ?_) (fun c2 => ?_)
    · rw [if_pos c2] at h
      refine a_aload_n hΓ 0 dX6_isBound_8 rfl rfl ?_
      refine n_getR hΓ fl_RX6_37 cl_6 kd_72 lz_72 dX6_isBound_9 ft_6_11 rf_72_11 ?_
      refine a_iload_n hΓ 1 dX6_isBound_12 rfl rfl ?_
      obtain ⟨g3, h⟩ := h
      refine n_iald (x := (M 81 v1)) hΓ dX6_isBound_13 kd_81 lz_81 g3 rfl ?_
      refine a_aload_n hΓ 0 dX6_isBound_14 rfl rfl ?_
      refine n_getR hΓ fl_RX6_40 cl_6 kd_72 lz_72 dX6_isBound_15 ft_6_12 rf_72_12 ?_
      refine a_iload_n hΓ 1 dX6_isBound_18 rfl rfl ?_
      refine n_iald (x := (M 82 v1)) hΓ dX6_isBound_19 kd_82 lz_82 g3 rfl ?_
      obtain ⟨g4, h⟩ := h
      obtain ⟨g5, h⟩ := h
      refine a_icmp_le (tgt := 25) hΓ g4 g5 dX6_isBound_20 (by decide) (fun c6 => ?_) (fun c6 => ?_)
      · rw [if_pos c6] at h
        refine a_iinc (ls' := [(1, aI (v1 + 1)), (0, aR 72)]) hΓ 1 dX6_isBound_25 rfl (by decide) rfl ?_
        refine a_goto (tgt := 2) hΓ dX6_isBound_28 (by decide) ?_
        refine a_sub (ls' := [(0, aR 72), (1, aI (v1 + 1))]) [1, 0] rfl ?_
        exact ih (v1 + 1) M h
      · rw [if_neg c6] at h
        refine a_iconst hΓ dX6_isBound_23 ?_
        exact a_zret hΓ hr (Or.inl rfl) dX6_isBound_24 ⟨_, _, rfl, rfl, h⟩
    · rw [if_neg c2] at h
      refine a_iconst hΓ dX6_isBound_31 ?_
      exact a_zret hΓ hr (Or.inr rfl) dX6_isBound_32 ⟨_, _, rfl, rfl, h⟩
def wX6_isBound  (M : Mm) (Q : Int → Mm → Prop) : Prop :=
    ∃ n, wX6_isBound_2 Q n 0 M
set_option maxHeartbeats 4000000 in
theorem s_wX6_isBound {Γ : Cx} {h : Nat} (hΓ : Ok Γ cX6_isBound RX6 2 h 0 0) (hh : 1 ≤ h) (hr : (cxm Γ).sig.returnType = (some .boolean)) {Q : Int → Mm → Prop}  (M : Mm) (h : wX6_isBound  M Q) : Wa Γ 2 (Kf Γ (QI Q) 0 0) 0 0 0 [(0, aR 72)] [] (NC, RF, M) := by
  unfold wX6_isBound at h
  refine a_iconst hΓ dX6_isBound_0 ?_
  refine a_istore_n (ls' := [(1, aI 0), (0, aR 72)]) hΓ dX6_isBound_1 rfl (by decide) rfl ?_
  refine a_sub (ls' := [(0, aR 72), (1, aI 0)]) [1, 0] rfl ?_
  obtain ⟨f1, h⟩ := h
  exact s_wX6_isBound_2 hΓ (Nat.le_trans (by decide) hh) hr  f1 0 M h
theorem ct_wX6_isBound (l : Launch) (g : Gp)  (M : Mm) (Q : Int → Mm → Prop) (h : wX6_isBound  M Q) : Ct l g yX6_isBound cX6_isBound 2 (some .boolean) 1 0 0 [aR 72] (NC, RF, M) (QI Q) :=
  ct_of (by decide) (Nat.le_of_ble_eq_true rfl) (fun Γ hg hl hr _ hΓ => by subst hg; subst hl; exact s_wX6_isBound hΓ (by decide) hr  M h)
def wX6_narrow (v1 : Int) (v2 : Int) (v3 : Int) (M : Mm) (Q : Mm → Prop) : Prop :=
    (0 ≤ v1 ∧ v1 < 120) ∧
    Bd (wJ9_max_7cf53 (M 81 v1) v2 M) (fun r4 M5 =>
    Bd (wJ9_min_7cf53 (M5 82 v1) v3 (up M5 81 v1 r4)) (fun r8 M9 =>
    Q (up M9 82 v1 r8)))
set_option maxHeartbeats 4000000 in
theorem s_wX6_narrow {Γ : Cx} {h : Nat} (hΓ : Ok Γ cX6_narrow RX6 4 h 0 0) (hh : 2 ≤ h) (hr : (cxm Γ).sig.returnType = none) {Q : Mm → Prop} (v1 : Int) (v2 : Int) (v3 : Int) (M : Mm) (h : wX6_narrow v1 v2 v3 M Q) : Wa Γ 4 (Kf Γ (QV Q) 0 0) 0 0 0 [(0, aR 72), (1, aI v1), (2, aI v2), (3, aI v3)] [] (NC, RF, M) := by
  unfold wX6_narrow at h
  refine a_aload_n hΓ 0 dX6_narrow_0 rfl rfl ?_
  refine n_getR hΓ fl_RX6_37 cl_6 kd_72 lz_72 dX6_narrow_1 ft_6_11 rf_72_11 ?_
  refine a_iload_n hΓ 1 dX6_narrow_4 rfl rfl ?_
  refine a_aload_n hΓ 0 dX6_narrow_5 rfl rfl ?_
  refine n_getR hΓ fl_RX6_37 cl_6 kd_72 lz_72 dX6_narrow_6 ft_6_11 rf_72_11 ?_
  refine a_iload_n hΓ 1 dX6_narrow_9 rfl rfl ?_
  obtain ⟨g1, h⟩ := h
  refine n_iald (x := (M 81 v1)) hΓ dX6_narrow_10 kd_81 lz_81 g1 rfl ?_
  refine a_iload_n hΓ 2 dX6_narrow_11 rfl rfl ?_
  obtain ⟨P2, q3, h⟩ := h
  refine n_callS (av := [aI (M 81 v1), aI v2]) (st := [aI v1, aR 81]) hΓ (ct_wJ9_max_7cf53 _ _ (M 81 v1) v2 M P2 q3) my_J9_max_7cf53 ml_RX6_140 rfl (Nat.le_trans (by decide) hh) (by decide) (Nat.le_of_ble_eq_true rfl) rfl dX6_narrow_12 (fun v Z' hq => ?_)
  obtain ⟨r4, M5, rfl, rfl, hq⟩ := hq
  have h := h r4 M5 hq
  dsimp only at h
  refine a_iast hΓ dX6_narrow_15 kd_81 lz_81 g1 ?_
  refine a_aload_n hΓ 0 dX6_narrow_16 rfl rfl ?_
  refine n_getR hΓ fl_RX6_40 cl_6 kd_72 lz_72 dX6_narrow_17 ft_6_12 rf_72_12 ?_
  refine a_iload_n hΓ 1 dX6_narrow_20 rfl rfl ?_
  refine a_aload_n hΓ 0 dX6_narrow_21 rfl rfl ?_
  refine n_getR hΓ fl_RX6_40 cl_6 kd_72 lz_72 dX6_narrow_22 ft_6_12 rf_72_12 ?_
  refine a_iload_n hΓ 1 dX6_narrow_25 rfl rfl ?_
  refine n_iald (x := (M5 82 v1)) hΓ dX6_narrow_26 kd_82 lz_82 g1 rfl ?_
  refine a_iload_n hΓ 3 dX6_narrow_27 rfl rfl ?_
  obtain ⟨P6, q7, h⟩ := h
  refine n_callS (av := [aI (M5 82 v1), aI v3]) (st := [aI v1, aR 82]) hΓ (ct_wJ9_min_7cf53 _ _ (M5 82 v1) v3 (up M5 81 v1 r4) P6 q7) my_J9_min_7cf53 ml_RX6_143 rfl (Nat.le_trans (by decide) hh) (by decide) (Nat.le_of_ble_eq_true rfl) rfl dX6_narrow_28 (fun v Z' hq => ?_)
  obtain ⟨r8, M9, rfl, rfl, hq⟩ := hq
  have h := h r8 M9 hq
  dsimp only at h
  refine a_iast hΓ dX6_narrow_31 kd_82 lz_82 g1 ?_
  exact a_vret hΓ hr dX6_narrow_32 ⟨_, rfl, rfl, h⟩
theorem ct_wX6_narrow (l : Launch) (g : Gp) (v1 : Int) (v2 : Int) (v3 : Int) (M : Mm) (Q : Mm → Prop) (h : wX6_narrow v1 v2 v3 M Q) : Ct l g yX6_narrow cX6_narrow 4 none 2 0 0 [aR 72, aI v1, aI v2, aI v3] (NC, RF, M) (QV Q) :=
  ct_of (by decide) (Nat.le_of_ble_eq_true rfl) (fun Γ hg hl hr _ hΓ => by subst hg; subst hl; exact s_wX6_narrow hΓ (by decide) hr v1 v2 v3 M h)
def wX6_bind_153 (Q : Int → Mm → Prop) : Nat → Int → Mm → Prop
  | 0, _, _ => False
  | f + 1, v3, M => (inR v3) ∧
    (if v3 < 0 then
      Bd (wX6_isBound M) (fun r5 M6 =>
      (r5 = 0 ∨ r5 = 1) ∧
      Q r5 M6)
    else
      (0 ≤ (v3 + 1) ∧ (v3 + 1) < 120) ∧
      (inR (M 78 (v3 + 1))) ∧
      (if (M 78 (v3 + 1)) = 0 then
        (0 ≤ v3 ∧ v3 < 120) ∧
        Bv (wX6_narrow v3 ((M 81 (v3 + 1)) - (M 76 v3)) ((M 82 (v3 + 1)) - (M 75 v3)) M) (fun M15 =>
        (wX6_bind_153 Q f) (v3 + (-1)) M15)
      else
        (wX6_bind_153 Q f) (v3 + (-1)) M))
set_option maxHeartbeats 4000000 in
theorem s_wX6_bind_153 {Γ : Cx} {h : Nat} (hΓ : Ok Γ cX6_bind RX6 4 h 0 0) (hh : 3 ≤ h) (hr : (cxm Γ).sig.returnType = (some .boolean)) {Q : Int → Mm → Prop}   : ∀ (f : Nat) (v3 : Int) (M : Mm), wX6_bind_153 Q  f v3 M → Wa Γ 4 (Kf Γ (QI Q) 0 0) 0 0 153 [(0, aR 72), (3, aI v3)] [] (NC, RF, M) := by
  intro f
  induction f with
  | zero => intro v3 M h; exact h.elim
  | succ f ih =>
    intro v3 M h
    unfold wX6_bind_153 at h
    refine a_iload_n hΓ 1 dX6_bind_153 rfl rfl ?_
    obtain ⟨g1, h⟩ := h
    refine a_if_lt (tgt := 209) hΓ g1 dX6_bind_154 (by decide) (fun c2 => ?_) (fun c2 => ?_)
    · rw [if_pos c2] at h
      refine a_aload_n hΓ 0 dX6_bind_209 rfl rfl ?_
      obtain ⟨P3, q4, h⟩ := h
      refine n_callV (c := 72) (av := []) (st := []) hΓ (ct_wX6_isBound _ _  M P3 q4) my_X6_isBound ml_RX6_167 ni_X6_isBound kd_72 rfl lz_72 rfl (Nat.le_trans (by decide) hh) (by decide) (Nat.le_of_ble_eq_true rfl) rfl dX6_bind_210 (fun v Z' hq => ?_)
      obtain ⟨r5, M6, rfl, rfl, hq⟩ := hq
      have h := h r5 M6 hq
      dsimp only at h
      obtain ⟨g7, h⟩ := h
      exact a_zret hΓ hr g7 dX6_bind_213 ⟨_, _, rfl, rfl, h⟩
    · rw [if_neg c2] at h
      refine a_aload_n hΓ 0 dX6_bind_157 rfl rfl ?_
      refine n_getR hΓ fl_RX6_27 cl_6 kd_72 lz_72 dX6_bind_158 ft_6_7 rf_72_7 ?_
      refine a_iload_n hΓ 1 dX6_bind_161 rfl rfl ?_
      refine a_iconst hΓ dX6_bind_162 ?_
      refine a_iadd hΓ dX6_bind_163 ?_
      obtain ⟨g8, h⟩ := h
      refine n_bald (x := (M 78 (v3 + 1))) hΓ dX6_bind_164 kd_78 (Or.inl rfl) lz_78 g8 rfl ?_
      obtain ⟨g9, h⟩ := h
      refine a_if_ne (tgt := 203) hΓ g9 dX6_bind_165 (by decide) (fun c10 => ?_) (fun c10 => ?_)
      · rw [if_pos c10] at h
        refine a_aload_n hΓ 0 dX6_bind_168 rfl rfl ?_
        refine a_iload_n hΓ 1 dX6_bind_169 rfl rfl ?_
        refine a_aload_n hΓ 0 dX6_bind_170 rfl rfl ?_
        refine n_getR hΓ fl_RX6_37 cl_6 kd_72 lz_72 dX6_bind_171 ft_6_11 rf_72_11 ?_
        refine a_iload_n hΓ 1 dX6_bind_174 rfl rfl ?_
        refine a_iconst hΓ dX6_bind_175 ?_
        refine a_iadd hΓ dX6_bind_176 ?_
        refine n_iald (x := (M 81 (v3 + 1))) hΓ dX6_bind_177 kd_81 lz_81 g8 rfl ?_
        refine a_aload_n hΓ 0 dX6_bind_178 rfl rfl ?_
        refine n_getR hΓ fl_RX6_21 cl_6 kd_72 lz_72 dX6_bind_179 ft_6_5 rf_72_5 ?_
        refine a_iload_n hΓ 1 dX6_bind_182 rfl rfl ?_
        obtain ⟨g11, h⟩ := h
        refine n_iald (x := (M 76 v3)) hΓ dX6_bind_183 kd_76 lz_76 g11 rfl ?_
        refine a_isub hΓ dX6_bind_184 ?_
        refine a_aload_n hΓ 0 dX6_bind_185 rfl rfl ?_
        refine n_getR hΓ fl_RX6_40 cl_6 kd_72 lz_72 dX6_bind_186 ft_6_12 rf_72_12 ?_
        refine a_iload_n hΓ 1 dX6_bind_189 rfl rfl ?_
        refine a_iconst hΓ dX6_bind_190 ?_
        refine a_iadd hΓ dX6_bind_191 ?_
        refine n_iald (x := (M 82 (v3 + 1))) hΓ dX6_bind_192 kd_82 lz_82 g8 rfl ?_
        refine a_aload_n hΓ 0 dX6_bind_193 rfl rfl ?_
        refine n_getR hΓ fl_RX6_18 cl_6 kd_72 lz_72 dX6_bind_194 ft_6_4 rf_72_4 ?_
        refine a_iload_n hΓ 1 dX6_bind_197 rfl rfl ?_
        refine n_iald (x := (M 75 v3)) hΓ dX6_bind_198 kd_75 lz_75 g11 rfl ?_
        refine a_isub hΓ dX6_bind_199 ?_
        obtain ⟨P12, q13, h⟩ := h
        refine n_callV (c := 72) (av := [aI v3, aI ((M 81 (v3 + 1)) - (M 76 v3)), aI ((M 82 (v3 + 1)) - (M 75 v3))]) (st := []) hΓ (ct_wX6_narrow _ _ v3 ((M 81 (v3 + 1)) - (M 76 v3)) ((M 82 (v3 + 1)) - (M 75 v3)) M P12 q13) my_X6_narrow ml_RX6_164 ni_X6_narrow kd_72 rfl lz_72 rfl (Nat.le_trans (by decide) hh) (by decide) (Nat.le_of_ble_eq_true rfl) rfl dX6_bind_200 (fun v Z' hq => ?_)
        obtain ⟨M15, rfl, rfl, hq⟩ := hq
        have h := h M15 hq
        dsimp only at h
        refine a_iinc (ls' := [(3, aI (v3 + (-1))), (0, aR 72)]) hΓ 1 dX6_bind_203 rfl (by decide) rfl ?_
        refine a_goto (tgt := 153) hΓ dX6_bind_206 (by decide) ?_
        refine a_sub (ls' := [(0, aR 72), (3, aI (v3 + (-1)))]) [1, 0] rfl ?_
        exact ih (v3 + (-1)) M15 h
      · rw [if_neg c10] at h
        refine a_iinc (ls' := [(3, aI (v3 + (-1))), (0, aR 72)]) hΓ 1 dX6_bind_203 rfl (by decide) rfl ?_
        refine a_goto (tgt := 153) hΓ dX6_bind_206 (by decide) ?_
        refine a_sub (ls' := [(0, aR 72), (3, aI (v3 + (-1)))]) [1, 0] rfl ?_
        exact ih (v3 + (-1)) M h
def wX6_bind_90 (Q : Int → Mm → Prop) : Nat → Int → Mm → Prop
  | 0, _, _ => False
  | f + 1, v3, M => (inR v3) ∧
    (if v3 < 120 then
      (0 ≤ v3 ∧ v3 < 120) ∧
      (inR (M 78 v3)) ∧
      (if (M 78 v3) = 0 then
        (0 ≤ (v3 - 1) ∧ (v3 - 1) < 120) ∧
        Bv (wX6_narrow v3 ((M 81 (v3 - 1)) + (M 75 (v3 - 1))) ((M 82 (v3 - 1)) + (M 76 (v3 - 1))) M) (fun M10 =>
        (wX6_bind_90 Q f) (v3 + 1) M10)
      else
        (wX6_bind_90 Q f) (v3 + 1) M)
    else
      ∃ n, wX6_bind_153 Q n 118 M)
set_option maxHeartbeats 4000000 in
theorem s_wX6_bind_90 {Γ : Cx} {h : Nat} (hΓ : Ok Γ cX6_bind RX6 4 h 0 0) (hh : 3 ≤ h) (hr : (cxm Γ).sig.returnType = (some .boolean)) {Q : Int → Mm → Prop}   : ∀ (f : Nat) (v3 : Int) (M : Mm), wX6_bind_90 Q  f v3 M → Wa Γ 4 (Kf Γ (QI Q) 0 0) 0 0 90 [(0, aR 72), (3, aI v3)] [] (NC, RF, M) := by
  intro f
  induction f with
  | zero => intro v3 M h; exact h.elim
  | succ f ih =>
    intro v3 M h
    unfold wX6_bind_90 at h
    refine a_iload_n hΓ 1 dX6_bind_90 rfl rfl ?_
    refine a_bipush hΓ dX6_bind_91 (by decide) ?_
    obtain ⟨g1, h⟩ := h
    refine a_icmp_ge (tgt := 150) hΓ g1 (inRl (by decide)) dX6_bind_93 (by decide) (fun c2 => ?_) (fun c2 => ?_)
    · rw [if_pos c2] at h
      refine a_aload_n hΓ 0 dX6_bind_96 rfl rfl ?_
      refine n_getR hΓ fl_RX6_27 cl_6 kd_72 lz_72 dX6_bind_97 ft_6_7 rf_72_7 ?_
      refine a_iload_n hΓ 1 dX6_bind_100 rfl rfl ?_
      obtain ⟨g3, h⟩ := h
      refine n_bald (x := (M 78 v3)) hΓ dX6_bind_101 kd_78 (Or.inl rfl) lz_78 g3 rfl ?_
      obtain ⟨g4, h⟩ := h
      refine a_if_ne (tgt := 144) hΓ g4 dX6_bind_102 (by decide) (fun c5 => ?_) (fun c5 => ?_)
      · rw [if_pos c5] at h
        refine a_aload_n hΓ 0 dX6_bind_105 rfl rfl ?_
        refine a_iload_n hΓ 1 dX6_bind_106 rfl rfl ?_
        refine a_aload_n hΓ 0 dX6_bind_107 rfl rfl ?_
        refine n_getR hΓ fl_RX6_37 cl_6 kd_72 lz_72 dX6_bind_108 ft_6_11 rf_72_11 ?_
        refine a_iload_n hΓ 1 dX6_bind_111 rfl rfl ?_
        refine a_iconst hΓ dX6_bind_112 ?_
        refine a_isub hΓ dX6_bind_113 ?_
        obtain ⟨g6, h⟩ := h
        refine n_iald (x := (M 81 (v3 - 1))) hΓ dX6_bind_114 kd_81 lz_81 g6 rfl ?_
        refine a_aload_n hΓ 0 dX6_bind_115 rfl rfl ?_
        refine n_getR hΓ fl_RX6_18 cl_6 kd_72 lz_72 dX6_bind_116 ft_6_4 rf_72_4 ?_
        refine a_iload_n hΓ 1 dX6_bind_119 rfl rfl ?_
        refine a_iconst hΓ dX6_bind_120 ?_
        refine a_isub hΓ dX6_bind_121 ?_
        refine n_iald (x := (M 75 (v3 - 1))) hΓ dX6_bind_122 kd_75 lz_75 g6 rfl ?_
        refine a_iadd hΓ dX6_bind_123 ?_
        refine a_aload_n hΓ 0 dX6_bind_124 rfl rfl ?_
        refine n_getR hΓ fl_RX6_40 cl_6 kd_72 lz_72 dX6_bind_125 ft_6_12 rf_72_12 ?_
        refine a_iload_n hΓ 1 dX6_bind_128 rfl rfl ?_
        refine a_iconst hΓ dX6_bind_129 ?_
        refine a_isub hΓ dX6_bind_130 ?_
        refine n_iald (x := (M 82 (v3 - 1))) hΓ dX6_bind_131 kd_82 lz_82 g6 rfl ?_
        refine a_aload_n hΓ 0 dX6_bind_132 rfl rfl ?_
        refine n_getR hΓ fl_RX6_21 cl_6 kd_72 lz_72 dX6_bind_133 ft_6_5 rf_72_5 ?_
        refine a_iload_n hΓ 1 dX6_bind_136 rfl rfl ?_
        refine a_iconst hΓ dX6_bind_137 ?_
        refine a_isub hΓ dX6_bind_138 ?_
        refine n_iald (x := (M 76 (v3 - 1))) hΓ dX6_bind_139 kd_76 lz_76 g6 rfl ?_
        refine a_iadd hΓ dX6_bind_140 ?_
        obtain ⟨P7, q8, h⟩ := h
        refine n_callV (c := 72) (av := [aI v3, aI ((M 81 (v3 - 1)) + (M 75 (v3 - 1))), aI ((M 82 (v3 - 1)) + (M 76 (v3 - 1)))]) (st := []) hΓ (ct_wX6_narrow _ _ v3 ((M 81 (v3 - 1)) + (M 75 (v3 - 1))) ((M 82 (v3 - 1)) + (M 76 (v3 - 1))) M P7 q8) my_X6_narrow ml_RX6_164 ni_X6_narrow kd_72 rfl lz_72 rfl (Nat.le_trans (by decide) hh) (by decide) (Nat.le_of_ble_eq_true rfl) rfl dX6_bind_141 (fun v Z' hq => ?_)
        obtain ⟨M10, rfl, rfl, hq⟩ := hq
        have h := h M10 hq
        dsimp only at h
        refine a_iinc (ls' := [(3, aI (v3 + 1)), (0, aR 72)]) hΓ 1 dX6_bind_144 rfl (by decide) rfl ?_
        refine a_goto (tgt := 90) hΓ dX6_bind_147 (by decide) ?_
        refine a_sub (ls' := [(0, aR 72), (3, aI (v3 + 1))]) [1, 0] rfl ?_
        exact ih (v3 + 1) M10 h
      · rw [if_neg c5] at h
        refine a_iinc (ls' := [(3, aI (v3 + 1)), (0, aR 72)]) hΓ 1 dX6_bind_144 rfl (by decide) rfl ?_
        refine a_goto (tgt := 90) hΓ dX6_bind_147 (by decide) ?_
        refine a_sub (ls' := [(0, aR 72), (3, aI (v3 + 1))]) [1, 0] rfl ?_
        exact ih (v3 + 1) M h
    · rw [if_neg c2] at h
      refine a_bipush hΓ dX6_bind_150 (by decide) ?_
      refine a_istore_n (ls' := [(3, aI 118), (0, aR 72)]) hΓ dX6_bind_152 rfl (by decide) rfl ?_
      refine a_sub (ls' := [(0, aR 72), (3, aI 118)]) [1, 0] rfl ?_
      obtain ⟨f11, h⟩ := h
      exact s_wX6_bind_153 hΓ (Nat.le_trans (by decide) hh) hr  f11 118 M h
def wX6_bind_43 (Q : Int → Mm → Prop) (v1 : Int) : Nat → Int → Mm → Prop
  | 0, _, _ => False
  | f + 1, v3, M => (inR v3) ∧
    (inR (M 15 0)) ∧
    (if v3 < (M 15 0) then
      (if (landI (shrI v1 v3) 1) = 1 then
        (0 ≤ v3 ∧ v3 < 24) ∧
        Bv (wX6_narrow (M 17 v3) (M 79 v3) (M 80 v3) M) (fun M9 =>
        (wX6_bind_43 Q v1 f) (v3 + 1) M9)
      else
        (wX6_bind_43 Q v1 f) (v3 + 1) M)
    else
      ∃ n, wX6_bind_90 Q n 1 M)
set_option maxHeartbeats 4000000 in
theorem s_wX6_bind_43 {Γ : Cx} {h : Nat} (hΓ : Ok Γ cX6_bind RX6 4 h 0 0) (hh : 3 ≤ h) (hr : (cxm Γ).sig.returnType = (some .boolean)) {Q : Int → Mm → Prop} {v1 : Int}   : ∀ (f : Nat) (v3 : Int) (M : Mm), wX6_bind_43 Q v1 f v3 M → Wa Γ 4 (Kf Γ (QI Q) 0 0) 0 0 43 [(0, aR 72), (1, aI v1), (2, aR 15), (3, aI v3)] [] (NC, RF, M) := by
  intro f
  induction f with
  | zero => intro v3 M h; exact h.elim
  | succ f ih =>
    intro v3 M h
    unfold wX6_bind_43 at h
    refine a_iload_n hΓ 3 dX6_bind_43 rfl rfl ?_
    refine a_aload_n hΓ 2 dX6_bind_44 rfl rfl ?_
    refine n_getI (x := (M 15 0)) hΓ fl_RX6_108 cl_4 kd_15 lz_15 dX6_bind_45 (Or.inl ft_4_0) rfl ?_
    obtain ⟨g1, h⟩ := h
    obtain ⟨g2, h⟩ := h
    refine a_icmp_ge (tgt := 88) hΓ g1 g2 dX6_bind_48 (by decide) (fun c3 => ?_) (fun c3 => ?_)
    · rw [if_pos c3] at h
      refine a_iload_n hΓ 1 dX6_bind_51 rfl rfl ?_
      refine a_iload_n hΓ 3 dX6_bind_52 rfl rfl ?_
      refine a_ishr hΓ dX6_bind_53 ?_
      refine a_iconst hΓ dX6_bind_54 ?_
      refine a_iand hΓ dX6_bind_55 ?_
      refine a_iconst hΓ dX6_bind_56 ?_
      refine a_icmp_ne (tgt := 82) hΓ (inR_land _ _) (inRl (by decide)) dX6_bind_57 (by decide) (fun c4 => ?_) (fun c4 => ?_)
      · rw [if_pos c4] at h
        refine a_aload_n hΓ 0 dX6_bind_60 rfl rfl ?_
        refine a_aload_n hΓ 2 dX6_bind_61 rfl rfl ?_
        refine n_getR hΓ fl_RX6_125 cl_4 kd_15 lz_15 dX6_bind_62 ft_4_2 rf_15_2 ?_
        refine a_iload_n hΓ 3 dX6_bind_65 rfl rfl ?_
        obtain ⟨g5, h⟩ := h
        refine n_iald (x := (M 17 v3)) hΓ dX6_bind_66 kd_17 lz_17 g5 rfl ?_
        refine a_aload_n hΓ 0 dX6_bind_67 rfl rfl ?_
        refine n_getR hΓ fl_RX6_31 cl_6 kd_72 lz_72 dX6_bind_68 ft_6_9 rf_72_9 ?_
        refine a_iload_n hΓ 3 dX6_bind_71 rfl rfl ?_
        refine n_iald (x := (M 79 v3)) hΓ dX6_bind_72 kd_79 lz_79 g5 rfl ?_
        refine a_aload_n hΓ 0 dX6_bind_73 rfl rfl ?_
        refine n_getR hΓ fl_RX6_34 cl_6 kd_72 lz_72 dX6_bind_74 ft_6_10 rf_72_10 ?_
        refine a_iload_n hΓ 3 dX6_bind_77 rfl rfl ?_
        refine n_iald (x := (M 80 v3)) hΓ dX6_bind_78 kd_80 lz_80 g5 rfl ?_
        obtain ⟨P6, q7, h⟩ := h
        refine n_callV (c := 72) (av := [aI (M 17 v3), aI (M 79 v3), aI (M 80 v3)]) (st := []) hΓ (ct_wX6_narrow _ _ (M 17 v3) (M 79 v3) (M 80 v3) M P6 q7) my_X6_narrow ml_RX6_164 ni_X6_narrow kd_72 rfl lz_72 rfl (Nat.le_trans (by decide) hh) (by decide) (Nat.le_of_ble_eq_true rfl) rfl dX6_bind_79 (fun v Z' hq => ?_)
        obtain ⟨M9, rfl, rfl, hq⟩ := hq
        have h := h M9 hq
        dsimp only at h
        refine a_iinc (ls' := [(3, aI (v3 + 1)), (0, aR 72), (1, aI v1), (2, aR 15)]) hΓ 3 dX6_bind_82 rfl (by decide) rfl ?_
        refine a_goto (tgt := 43) hΓ dX6_bind_85 (by decide) ?_
        refine a_sub (ls' := [(0, aR 72), (1, aI v1), (2, aR 15), (3, aI (v3 + 1))]) [1, 2, 3, 0] rfl ?_
        exact ih (v3 + 1) M9 h
      · rw [if_neg c4] at h
        refine a_iinc (ls' := [(3, aI (v3 + 1)), (0, aR 72), (1, aI v1), (2, aR 15)]) hΓ 3 dX6_bind_82 rfl (by decide) rfl ?_
        refine a_goto (tgt := 43) hΓ dX6_bind_85 (by decide) ?_
        refine a_sub (ls' := [(0, aR 72), (1, aI v1), (2, aR 15), (3, aI (v3 + 1))]) [1, 2, 3, 0] rfl ?_
        exact ih (v3 + 1) M h
    · rw [if_neg c3] at h
      refine a_iconst hΓ dX6_bind_88 ?_
      refine a_istore_n (ls' := [(3, aI 1), (0, aR 72), (1, aI v1), (2, aR 15)]) hΓ dX6_bind_89 rfl (by decide) rfl ?_
      refine a_sub (ls' := [(0, aR 72), (3, aI 1)]) [1, 0] rfl ?_
      obtain ⟨f10, h⟩ := h
      exact s_wX6_bind_90 hΓ (Nat.le_trans (by decide) hh) hr  f10 1 M h
def wX6_bind_33 (Q : Int → Mm → Prop) (v1 : Int) (M : Mm) : Prop :=
    ∃ n, wX6_bind_43 Q v1 n 0 M
set_option maxHeartbeats 4000000 in
theorem s_wX6_bind_33 {Γ : Cx} {h : Nat} (hΓ : Ok Γ cX6_bind RX6 4 h 0 0) (hh : 3 ≤ h) (hr : (cxm Γ).sig.returnType = (some .boolean)) {Q : Int → Mm → Prop} {v1 : Int}   (M : Mm) (h : wX6_bind_33 Q v1 M) : Wa Γ 4 (Kf Γ (QI Q) 0 0) 0 0 33 [(0, aR 72), (1, aI v1)] [] (NC, RF, M) := by
  unfold wX6_bind_33 at h
  refine a_aload_n hΓ 0 dX6_bind_33 rfl rfl ?_
  refine n_getR hΓ fl_RX6_43 cl_6 kd_72 lz_72 dX6_bind_34 ft_6_0 rf_72_0 ?_
  refine n_getR hΓ fl_RX6_101 cl_0 kd_1 lz_1 dX6_bind_37 ft_0_14 rf_1_14 ?_
  refine a_astore_n (ls' := [(2, aR 15), (0, aR 72), (1, aI v1)]) hΓ dX6_bind_40 rfl (by decide) rfl ?_
  refine a_iconst hΓ dX6_bind_41 ?_
  refine a_istore_n (ls' := [(3, aI 0), (2, aR 15), (0, aR 72), (1, aI v1)]) hΓ dX6_bind_42 rfl (by decide) rfl ?_
  refine a_sub (ls' := [(0, aR 72), (1, aI v1), (2, aR 15), (3, aI 0)]) [2, 3, 1, 0] rfl ?_
  obtain ⟨f1, h⟩ := h
  exact s_wX6_bind_43 hΓ (Nat.le_trans (by decide) hh) hr  f1 0 M h
def wX6_bind_2 (Q : Int → Mm → Prop) (v1 : Int) : Nat → Int → Mm → Prop
  | 0, _, _ => False
  | f + 1, v2, M => (inR v2) ∧
    (if v2 < 120 then
      (0 ≤ v2 ∧ v2 < 120) ∧
      (wX6_bind_2 Q v1 f) (v2 + 1) (up (up M 81 v2 0) 82 v2 (M 77 v2))
    else
      wX6_bind_33 Q v1 M)
set_option maxHeartbeats 4000000 in
theorem s_wX6_bind_2 {Γ : Cx} {h : Nat} (hΓ : Ok Γ cX6_bind RX6 4 h 0 0) (hh : 3 ≤ h) (hr : (cxm Γ).sig.returnType = (some .boolean)) {Q : Int → Mm → Prop} {v1 : Int}   : ∀ (f : Nat) (v2 : Int) (M : Mm), wX6_bind_2 Q v1 f v2 M → Wa Γ 4 (Kf Γ (QI Q) 0 0) 0 0 2 [(0, aR 72), (1, aI v1), (2, aI v2)] [] (NC, RF, M) := by
  intro f
  induction f with
  | zero => intro v2 M h; exact h.elim
  | succ f ih =>
    intro v2 M h
    unfold wX6_bind_2 at h
    refine a_iload_n hΓ 2 dX6_bind_2 rfl rfl ?_
    refine a_bipush hΓ dX6_bind_3 (by decide) ?_
    obtain ⟨g1, h⟩ := h
    refine a_icmp_ge (tgt := 33) hΓ g1 (inRl (by decide)) dX6_bind_5 (by decide) (fun c2 => ?_) (fun c2 => ?_)
    · rw [if_pos c2] at h
      refine a_aload_n hΓ 0 dX6_bind_8 rfl rfl ?_
      refine n_getR hΓ fl_RX6_37 cl_6 kd_72 lz_72 dX6_bind_9 ft_6_11 rf_72_11 ?_
      refine a_iload_n hΓ 2 dX6_bind_12 rfl rfl ?_
      refine a_iconst hΓ dX6_bind_13 ?_
      obtain ⟨g3, h⟩ := h
      refine a_iast hΓ dX6_bind_14 kd_81 lz_81 g3 ?_
      refine a_aload_n hΓ 0 dX6_bind_15 rfl rfl ?_
      refine n_getR hΓ fl_RX6_40 cl_6 kd_72 lz_72 dX6_bind_16 ft_6_12 rf_72_12 ?_
      refine a_iload_n hΓ 2 dX6_bind_19 rfl rfl ?_
      refine a_aload_n hΓ 0 dX6_bind_20 rfl rfl ?_
      refine n_getR hΓ fl_RX6_24 cl_6 kd_72 lz_72 dX6_bind_21 ft_6_6 rf_72_6 ?_
      refine a_iload_n hΓ 2 dX6_bind_24 rfl rfl ?_
      refine n_iald (x := (M 77 v2)) hΓ dX6_bind_25 kd_77 lz_77 g3 rfl ?_
      refine a_iast hΓ dX6_bind_26 kd_82 lz_82 g3 ?_
      refine a_iinc (ls' := [(2, aI (v2 + 1)), (0, aR 72), (1, aI v1)]) hΓ 2 dX6_bind_27 rfl (by decide) rfl ?_
      refine a_goto (tgt := 2) hΓ dX6_bind_30 (by decide) ?_
      refine a_sub (ls' := [(0, aR 72), (1, aI v1), (2, aI (v2 + 1))]) [1, 2, 0] rfl ?_
      exact ih (v2 + 1) (up (up M 81 v2 0) 82 v2 (M 77 v2)) h
    · rw [if_neg c2] at h
      refine a_sub (ls' := [(0, aR 72), (1, aI v1)]) [0, 1] rfl ?_
      exact s_wX6_bind_33 hΓ (Nat.le_trans (by decide) hh) hr  M h
def wX6_bind (v1 : Int) (M : Mm) (Q : Int → Mm → Prop) : Prop :=
    ∃ n, wX6_bind_2 Q v1 n 0 M
set_option maxHeartbeats 4000000 in
theorem s_wX6_bind {Γ : Cx} {h : Nat} (hΓ : Ok Γ cX6_bind RX6 4 h 0 0) (hh : 3 ≤ h) (hr : (cxm Γ).sig.returnType = (some .boolean)) {Q : Int → Mm → Prop} (v1 : Int) (M : Mm) (h : wX6_bind v1 M Q) : Wa Γ 4 (Kf Γ (QI Q) 0 0) 0 0 0 [(0, aR 72), (1, aI v1)] [] (NC, RF, M) := by
  unfold wX6_bind at h
  refine a_iconst hΓ dX6_bind_0 ?_
  refine a_istore_n (ls' := [(2, aI 0), (0, aR 72), (1, aI v1)]) hΓ dX6_bind_1 rfl (by decide) rfl ?_
  refine a_sub (ls' := [(0, aR 72), (1, aI v1), (2, aI 0)]) [1, 2, 0] rfl ?_
  obtain ⟨f1, h⟩ := h
  exact s_wX6_bind_2 hΓ (Nat.le_trans (by decide) hh) hr  f1 0 M h
theorem ct_wX6_bind (l : Launch) (g : Gp) (v1 : Int) (M : Mm) (Q : Int → Mm → Prop) (h : wX6_bind v1 M Q) : Ct l g yX6_bind cX6_bind 4 (some .boolean) 3 0 0 [aR 72, aI v1] (NC, RF, M) (QI Q) :=
  ct_of (by decide) (Nat.le_of_ble_eq_true rfl) (fun Γ hg hl hr _ hΓ => by subst hg; subst hl; exact s_wX6_bind hΓ (by decide) hr v1 M h)
