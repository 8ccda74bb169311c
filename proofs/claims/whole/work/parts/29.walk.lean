/-! ===== printed by tools/gen.py ===== -/
def wX12_log (v1 : Int) (v2 : Int) (v3 : Int) (v4 : Int) (v5 : Int) (v6 : Int) (M : Mm) (Q : Int → Mm → Prop) : Prop :=
    Bd (wX12_isDay v2 M) (fun r3 M4 =>
    (inR r3) ∧
    (if r3 = 0 then
      Bd (wX12_ends (-1) M4) (fun r9 M10 =>
      Q r9 M10)
    else
      Bd (wX12_in v3 0 100000 M4) (fun r13 M14 =>
      (inR r13) ∧
      (if r13 = 0 then
        Bd (wX12_ends (-1) M14) (fun r19 M20 =>
        Q r19 M20)
      else
        Bd (wX12_in v4 0 1000 M14) (fun r23 M24 =>
        (inR r23) ∧
        (if r23 = 0 then
          Bd (wX12_ends (-1) M24) (fun r29 M30 =>
          Q r29 M30)
        else
          Bd (wX12_in v5 1 100 M24) (fun r33 M34 =>
          (inR r33) ∧
          (if r33 = 0 then
            Bd (wX12_ends (-1) M34) (fun r39 M40 =>
            Q r39 M40)
          else
            Bd (wX12_isDay v6 M34) (fun r43 M44 =>
            (inR r43) ∧
            (if r43 = 0 then
              Bd (wX12_ends (-1) M44) (fun r49 M50 =>
              Q r49 M50)
            else
              Bd (wX12_isShip v1 M44) (fun r53 M54 =>
              (inR r53) ∧
              (if r53 = 0 then
                Bd (wX12_ends (-2) M54) (fun r59 M60 =>
                Q r59 M60)
              else
                Bd (wX12_speedOn v1 v2 M54) (fun r63 M64 =>
                (inR r63) ∧
                (if r63 = 0 then
                  Bd (wX12_ends (-3) M64) (fun r69 M70 =>
                  Q r69 M70)
                else
                  Bd (wX12_many 3 M64) (fun r73 M74 =>
                  (inR r73) ∧
                  (if r73 = 24 then
                    Bd (wX12_ends (-5) M74) (fun r79 M80 =>
                    Q r79 M80)
                  else
                    Bd (wX12_adds v1 v2 v3 v4 v5 v6 0 M74) (fun r83 M84 =>
                    Bd (wX12_ends r83 M84) (fun r87 M88 =>
                    Q r87 M88))))))))))))))))))
set_option maxHeartbeats 4000000 in
theorem s_wX12_log {Γ : Cx} {h : Nat} (hΓ : Ok Γ cX12_log RX12 7 h 0 0) (hh : 5 ≤ h) (hr : (cxm Γ).sig.returnType = (some .int)) {Q : Int → Mm → Prop} (v1 : Int) (v2 : Int) (v3 : Int) (v4 : Int) (v5 : Int) (v6 : Int) (M : Mm) (h : wX12_log v1 v2 v3 v4 v5 v6 M Q) : Wa Γ 7 (Kf Γ (QI Q) 0 0) 0 0 0 [(0, aR 102), (1, aI v1), (2, aI v2), (3, aI v3), (4, aI v4), (5, aI v5), (6, aI v6)] [] (NC, RF, M) := by
  unfold wX12_log at h
  refine a_iload_n hΓ 2 dX12_log_0 rfl rfl ?_
  obtain ⟨P1, q2, h⟩ := h
  refine n_callS (av := [aI v2]) (st := []) hΓ (ct_wX12_isDay _ _ v2 M P1 q2) my_X12_isDay ml_RX12_109 rfl (Nat.le_trans (by decide) hh) (by decide) (Nat.le_of_ble_eq_true rfl) rfl dX12_log_1 (fun v Z' hq => ?_)
  obtain ⟨r3, M4, rfl, rfl, hq⟩ := hq
  have h := h r3 M4 hq
  dsimp only at h
  obtain ⟨g5, h⟩ := h
  refine a_if_eq (tgt := 48) hΓ g5 dX12_log_4 (by decide) (fun c6 => ?_) (fun c6 => ?_)
  · rw [if_pos c6] at h
    refine a_aload_n hΓ 0 dX12_log_48 rfl rfl ?_
    refine a_iconst hΓ dX12_log_49 ?_
    obtain ⟨P7, q8, h⟩ := h
    refine n_callV (c := 102) (av := [aI (-1)]) (st := []) hΓ (ct_wX12_ends _ _ (-1) M4 P7 q8) my_X12_ends ml_RX12_106 ni_X12_ends kd_102 rfl lz_102 rfl (Nat.le_trans (by decide) hh) (by decide) (Nat.le_of_ble_eq_true rfl) rfl dX12_log_50 (fun v Z' hq => ?_)
    obtain ⟨r9, M10, rfl, rfl, hq⟩ := hq
    have h := h r9 M10 hq
    dsimp only at h
    exact a_iret hΓ hr dX12_log_53 ⟨_, _, rfl, rfl, h⟩
  · rw [if_neg c6] at h
    refine a_iload_n hΓ 3 dX12_log_7 rfl rfl ?_
    refine a_iconst hΓ dX12_log_8 ?_
    refine a_ldc hΓ gc_RX12_120 dX12_log_9 ?_
    obtain ⟨P11, q12, h⟩ := h
    refine n_callS (av := [aI v3, aI 0, aI 100000]) (st := []) hΓ (ct_wX12_in _ _ v3 0 100000 M4 P11 q12) my_X12_in ml_RX12_3 rfl (Nat.le_trans (by decide) hh) (by decide) (Nat.le_of_ble_eq_true rfl) rfl dX12_log_11 (fun v Z' hq => ?_)
    obtain ⟨r13, M14, rfl, rfl, hq⟩ := hq
    have h := h r13 M14 hq
    dsimp only at h
    obtain ⟨g15, h⟩ := h
    refine a_if_eq (tgt := 48) hΓ g15 dX12_log_14 (by decide) (fun c16 => ?_) (fun c16 => ?_)
    · rw [if_pos c16] at h
      refine a_aload_n hΓ 0 dX12_log_48 rfl rfl ?_
      refine a_iconst hΓ dX12_log_49 ?_
      obtain ⟨P17, q18, h⟩ := h
      refine n_callV (c := 102) (av := [aI (-1)]) (st := []) hΓ (ct_wX12_ends _ _ (-1) M14 P17 q18) my_X12_ends ml_RX12_106 ni_X12_ends kd_102 rfl lz_102 rfl (Nat.le_trans (by decide) hh) (by decide) (Nat.le_of_ble_eq_true rfl) rfl dX12_log_50 (fun v Z' hq => ?_)
      obtain ⟨r19, M20, rfl, rfl, hq⟩ := hq
      have h := h r19 M20 hq
      dsimp only at h
      exact a_iret hΓ hr dX12_log_53 ⟨_, _, rfl, rfl, h⟩
    · rw [if_neg c16] at h
      refine a_iload hΓ 4 dX12_log_17 rfl ?_
      refine a_iconst hΓ dX12_log_19 ?_
      refine a_sipush hΓ dX12_log_20 (by decide) ?_
      obtain ⟨P21, q22, h⟩ := h
      refine n_callS (av := [aI v4, aI 0, aI 1000]) (st := []) hΓ (ct_wX12_in _ _ v4 0 1000 M14 P21 q22) my_X12_in ml_RX12_3 rfl (Nat.le_trans (by decide) hh) (by decide) (Nat.le_of_ble_eq_true rfl) rfl dX12_log_23 (fun v Z' hq => ?_)
      obtain ⟨r23, M24, rfl, rfl, hq⟩ := hq
      have h := h r23 M24 hq
      dsimp only at h
      obtain ⟨g25, h⟩ := h
      refine a_if_eq (tgt := 48) hΓ g25 dX12_log_26 (by decide) (fun c26 => ?_) (fun c26 => ?_)
      · rw [if_pos c26] at h
        refine a_aload_n hΓ 0 dX12_log_48 rfl rfl ?_
        refine a_iconst hΓ dX12_log_49 ?_
        obtain ⟨P27, q28, h⟩ := h
        refine n_callV (c := 102) (av := [aI (-1)]) (st := []) hΓ (ct_wX12_ends _ _ (-1) M24 P27 q28) my_X12_ends ml_RX12_106 ni_X12_ends kd_102 rfl lz_102 rfl (Nat.le_trans (by decide) hh) (by decide) (Nat.le_of_ble_eq_true rfl) rfl dX12_log_50 (fun v Z' hq => ?_)
        obtain ⟨r29, M30, rfl, rfl, hq⟩ := hq
        have h := h r29 M30 hq
        dsimp only at h
        exact a_iret hΓ hr dX12_log_53 ⟨_, _, rfl, rfl, h⟩
      · rw [if_neg c26] at h
        refine a_iload hΓ 5 dX12_log_29 rfl ?_
        refine a_iconst hΓ dX12_log_31 ?_
        refine a_bipush hΓ dX12_log_32 (by decide) ?_
        obtain ⟨P31, q32, h⟩ := h
        refine n_callS (av := [aI v5, aI 1, aI 100]) (st := []) hΓ (ct_wX12_in _ _ v5 1 100 M24 P31 q32) my_X12_in ml_RX12_3 rfl (Nat.le_trans (by decide) hh) (by decide) (Nat.le_of_ble_eq_true rfl) rfl dX12_log_34 (fun v Z' hq => ?_)
        obtain ⟨r33, M34, rfl, rfl, hq⟩ := hq
        have h := h r33 M34 hq
        dsimp only at h
        obtain ⟨g35, h⟩ := h
        refine a_if_eq (tgt := 48) hΓ g35 dX12_log_37 (by decide) (fun c36 => ?_) (fun c36 => ?_)
        · rw [if_pos c36] at h
          refine a_aload_n hΓ 0 dX12_log_48 rfl rfl ?_
          refine a_iconst hΓ dX12_log_49 ?_
          obtain ⟨P37, q38, h⟩ := h
          refine n_callV (c := 102) (av := [aI (-1)]) (st := []) hΓ (ct_wX12_ends _ _ (-1) M34 P37 q38) my_X12_ends ml_RX12_106 ni_X12_ends kd_102 rfl lz_102 rfl (Nat.le_trans (by decide) hh) (by decide) (Nat.le_of_ble_eq_true rfl) rfl dX12_log_50 (fun v Z' hq => ?_)
          obtain ⟨r39, M40, rfl, rfl, hq⟩ := hq
          have h := h r39 M40 hq
          dsimp only at h
          exact a_iret hΓ hr dX12_log_53 ⟨_, _, rfl, rfl, h⟩
        · rw [if_neg c36] at h
          refine a_iload hΓ 6 dX12_log_40 rfl ?_
          obtain ⟨P41, q42, h⟩ := h
          refine n_callS (av := [aI v6]) (st := []) hΓ (ct_wX12_isDay _ _ v6 M34 P41 q42) my_X12_isDay ml_RX12_109 rfl (Nat.le_trans (by decide) hh) (by decide) (Nat.le_of_ble_eq_true rfl) rfl dX12_log_42 (fun v Z' hq => ?_)
          obtain ⟨r43, M44, rfl, rfl, hq⟩ := hq
          have h := h r43 M44 hq
          dsimp only at h
          obtain ⟨g45, h⟩ := h
          refine a_if_ne (tgt := 54) hΓ g45 dX12_log_45 (by decide) (fun c46 => ?_) (fun c46 => ?_)
          · rw [if_pos c46] at h
            refine a_aload_n hΓ 0 dX12_log_48 rfl rfl ?_
            refine a_iconst hΓ dX12_log_49 ?_
            obtain ⟨P47, q48, h⟩ := h
            refine n_callV (c := 102) (av := [aI (-1)]) (st := []) hΓ (ct_wX12_ends _ _ (-1) M44 P47 q48) my_X12_ends ml_RX12_106 ni_X12_ends kd_102 rfl lz_102 rfl (Nat.le_trans (by decide) hh) (by decide) (Nat.le_of_ble_eq_true rfl) rfl dX12_log_50 (fun v Z' hq => ?_)
            obtain ⟨r49, M50, rfl, rfl, hq⟩ := hq
            have h := h r49 M50 hq
            dsimp only at h
            exact a_iret hΓ hr dX12_log_53 ⟨_, _, rfl, rfl, h⟩
          · rw [if_neg c46] at h
            refine a_aload_n hΓ 0 dX12_log_54 rfl rfl ?_
            refine a_iload_n hΓ 1 dX12_log_55 rfl rfl ?_
            obtain ⟨P51, q52, h⟩ := h
            refine n_callV (c := 102) (av := [aI v1]) (st := []) hΓ (ct_wX12_isShip _ _ v1 M44 P51 q52) my_X12_isShip ml_RX12_113 ni_X12_isShip kd_102 rfl lz_102 rfl (Nat.le_trans (by decide) hh) (by decide) (Nat.le_of_ble_eq_true rfl) rfl dX12_log_56 (fun v Z' hq => ?_)
            obtain ⟨r53, M54, rfl, rfl, hq⟩ := hq
            have h := h r53 M54 hq
            dsimp only at h
            obtain ⟨g55, h⟩ := h
            refine a_if_ne (tgt := 69) hΓ g55 dX12_log_59 (by decide) (fun c56 => ?_) (fun c56 => ?_)
            · rw [if_pos c56] at h
              refine a_aload_n hΓ 0 dX12_log_62 rfl rfl ?_
              refine a_bipush hΓ dX12_log_63 (by decide) ?_
              obtain ⟨P57, q58, h⟩ := h
              refine n_callV (c := 102) (av := [aI (-2)]) (st := []) hΓ (ct_wX12_ends _ _ (-2) M54 P57 q58) my_X12_ends ml_RX12_106 ni_X12_ends kd_102 rfl lz_102 rfl (Nat.le_trans (by decide) hh) (by decide) (Nat.le_of_ble_eq_true rfl) rfl dX12_log_65 (fun v Z' hq => ?_)
              obtain ⟨r59, M60, rfl, rfl, hq⟩ := hq
              have h := h r59 M60 hq
              dsimp only at h
              exact a_iret hΓ hr dX12_log_68 ⟨_, _, rfl, rfl, h⟩
            · rw [if_neg c56] at h
              refine a_aload_n hΓ 0 dX12_log_69 rfl rfl ?_
              refine a_iload_n hΓ 1 dX12_log_70 rfl rfl ?_
              refine a_iload_n hΓ 2 dX12_log_71 rfl rfl ?_
              obtain ⟨P61, q62, h⟩ := h
              refine n_callV (c := 102) (av := [aI v1, aI v2]) (st := []) hΓ (ct_wX12_speedOn _ _ v1 v2 M54 P61 q62) my_X12_speedOn ml_RX12_134 ni_X12_speedOn kd_102 rfl lz_102 rfl (Nat.le_trans (by decide) hh) (by decide) (Nat.le_of_ble_eq_true rfl) rfl dX12_log_72 (fun v Z' hq => ?_)
              obtain ⟨r63, M64, rfl, rfl, hq⟩ := hq
              have h := h r63 M64 hq
              dsimp only at h
              obtain ⟨g65, h⟩ := h
              refine a_if_ne (tgt := 85) hΓ g65 dX12_log_75 (by decide) (fun c66 => ?_) (fun c66 => ?_)
              · rw [if_pos c66] at h
                refine a_aload_n hΓ 0 dX12_log_78 rfl rfl ?_
                refine a_bipush hΓ dX12_log_79 (by decide) ?_
                obtain ⟨P67, q68, h⟩ := h
                refine n_callV (c := 102) (av := [aI (-3)]) (st := []) hΓ (ct_wX12_ends _ _ (-3) M64 P67 q68) my_X12_ends ml_RX12_106 ni_X12_ends kd_102 rfl lz_102 rfl (Nat.le_trans (by decide) hh) (by decide) (Nat.le_of_ble_eq_true rfl) rfl dX12_log_81 (fun v Z' hq => ?_)
                obtain ⟨r69, M70, rfl, rfl, hq⟩ := hq
                have h := h r69 M70 hq
                dsimp only at h
                exact a_iret hΓ hr dX12_log_84 ⟨_, _, rfl, rfl, h⟩
              · rw [if_neg c66] at h
                refine a_aload_n hΓ 0 dX12_log_85 rfl rfl ?_
                refine a_iconst hΓ dX12_log_86 ?_
                obtain ⟨P71, q72, h⟩ := h
                refine n_callV (c := 102) (av := [aI 3]) (st := []) hΓ (ct_wX12_many _ _ 3 M64 P71 q72) my_X12_many ml_RX12_102 ni_X12_many kd_102 rfl lz_102 rfl (Nat.le_trans (by decide) hh) (by decide) (Nat.le_of_ble_eq_true rfl) rfl dX12_log_87 (fun v Z' hq => ?_)
                obtain ⟨r73, M74, rfl, rfl, hq⟩ := hq
                have h := h r73 M74 hq
                dsimp only at h
                refine a_bipush hΓ dX12_log_90 (by decide) ?_
                obtain ⟨g75, h⟩ := h
                refine a_icmp_ne (tgt := 102) hΓ g75 (inRl (by decide)) dX12_log_92 (by decide) (fun c76 => ?_) (fun c76 => ?_)
                · rw [if_pos c76] at h
                  refine a_aload_n hΓ 0 dX12_log_95 rfl rfl ?_
                  refine a_bipush hΓ dX12_log_96 (by decide) ?_
                  obtain ⟨P77, q78, h⟩ := h
                  refine n_callV (c := 102) (av := [aI (-5)]) (st := []) hΓ (ct_wX12_ends _ _ (-5) M74 P77 q78) my_X12_ends ml_RX12_106 ni_X12_ends kd_102 rfl lz_102 rfl (Nat.le_trans (by decide) hh) (by decide) (Nat.le_of_ble_eq_true rfl) rfl dX12_log_98 (fun v Z' hq => ?_)
                  obtain ⟨r79, M80, rfl, rfl, hq⟩ := hq
                  have h := h r79 M80 hq
                  dsimp only at h
                  exact a_iret hΓ hr dX12_log_101 ⟨_, _, rfl, rfl, h⟩
                · rw [if_neg c76] at h
                  refine a_aload_n hΓ 0 dX12_log_102 rfl rfl ?_
                  refine a_aload_n hΓ 0 dX12_log_103 rfl rfl ?_
                  refine a_iload_n hΓ 1 dX12_log_104 rfl rfl ?_
                  refine a_iload_n hΓ 2 dX12_log_105 rfl rfl ?_
                  refine a_iload_n hΓ 3 dX12_log_106 rfl rfl ?_
                  refine a_iload hΓ 4 dX12_log_107 rfl ?_
                  refine a_iload hΓ 5 dX12_log_109 rfl ?_
                  refine a_iload hΓ 6 dX12_log_111 rfl ?_
                  refine a_iconst hΓ dX12_log_113 ?_
                  obtain ⟨P81, q82, h⟩ := h
                  refine n_callV (c := 102) (av := [aI v1, aI v2, aI v3, aI v4, aI v5, aI v6, aI 0]) (st := [aR 102]) hΓ (ct_wX12_adds _ _ v1 v2 v3 v4 v5 v6 0 M74 P81 q82) my_X12_adds ml_RX12_147 ni_X12_adds kd_102 rfl lz_102 rfl (Nat.le_trans (by decide) hh) (by decide) (Nat.le_of_ble_eq_true rfl) rfl dX12_log_114 (fun v Z' hq => ?_)
                  obtain ⟨r83, M84, rfl, rfl, hq⟩ := hq
                  have h := h r83 M84 hq
                  dsimp only at h
                  obtain ⟨P85, q86, h⟩ := h
                  refine n_callV (c := 102) (av := [aI r83]) (st := []) hΓ (ct_wX12_ends _ _ r83 M84 P85 q86) my_X12_ends ml_RX12_106 ni_X12_ends kd_102 rfl lz_102 rfl (Nat.le_trans (by decide) hh) (by decide) (Nat.le_of_ble_eq_true rfl) rfl dX12_log_117 (fun v Z' hq => ?_)
                  obtain ⟨r87, M88, rfl, rfl, hq⟩ := hq
                  have h := h r87 M88 hq
                  dsimp only at h
                  exact a_iret hΓ hr dX12_log_120 ⟨_, _, rfl, rfl, h⟩
theorem ct_wX12_log (l : Launch) (g : Gp) (v1 : Int) (v2 : Int) (v3 : Int) (v4 : Int) (v5 : Int) (v6 : Int) (M : Mm) (Q : Int → Mm → Prop) (h : wX12_log v1 v2 v3 v4 v5 v6 M Q) : Ct l g yX12_log cX12_log 7 (some .int) 5 0 0 [aR 102, aI v1, aI v2, aI v3, aI v4, aI v5, aI v6] (NC, RF, M) (QI Q) :=
  ct_of (by decide) (Nat.le_of_ble_eq_true rfl) (fun Γ hg hl hr _ hΓ => by subst hg; subst hl; exact s_wX12_log hΓ (by decide) hr v1 v2 v3 v4 v5 v6 M h)
def wX12_look (v1 : Int) (v2 : Int) (v3 : Int) (v4 : Int) (v5 : Int) (v6 : Int) (M : Mm) (Q : Int → Mm → Prop) : Prop :=
    Bd (wX12_isDay v2 M) (fun r3 M4 =>
    (inR r3) ∧
    (if r3 = 0 then
      Bd (wX12_ends (-1) M4) (fun r9 M10 =>
      Q r9 M10)
    else
      Bd (wX12_in v3 0 1000 M4) (fun r13 M14 =>
      (inR r13) ∧
      (if r13 = 0 then
        Bd (wX12_ends (-1) M14) (fun r19 M20 =>
        Q r19 M20)
      else
        Bd (wX12_in v4 v3 1000 M14) (fun r23 M24 =>
        (inR r23) ∧
        (if r23 = 0 then
          Bd (wX12_ends (-1) M24) (fun r29 M30 =>
          Q r29 M30)
        else
          Bd (wX12_in v5 1 100 M24) (fun r33 M34 =>
          (inR r33) ∧
          (if r33 = 0 then
            Bd (wX12_ends (-1) M34) (fun r39 M40 =>
            Q r39 M40)
          else
            Bd (wX12_isDay v6 M34) (fun r43 M44 =>
            (inR r43) ∧
            (if r43 = 0 then
              Bd (wX12_ends (-1) M44) (fun r49 M50 =>
              Q r49 M50)
            else
              Bd (wX12_isShip v1 M44) (fun r53 M54 =>
              (inR r53) ∧
              (if r53 = 0 then
                Bd (wX12_ends (-2) M54) (fun r59 M60 =>
                Q r59 M60)
              else
                Bd (wX12_many 3 M54) (fun r63 M64 =>
                (inR r63) ∧
                (if r63 = 24 then
                  Bd (wX12_ends (-5) M64) (fun r69 M70 =>
                  Q r69 M70)
                else
                  Bd (wX12_adds v1 v2 v3 v4 v5 v6 1 M64) (fun r73 M74 =>
                  Bd (wX12_ends r73 M74) (fun r77 M78 =>
                  Q r77 M78))))))))))))))))
set_option maxHeartbeats 4000000 in
theorem s_wX12_look {Γ : Cx} {h : Nat} (hΓ : Ok Γ cX12_look RX12 7 h 0 0) (hh : 3 ≤ h) (hr : (cxm Γ).sig.returnType = (some .int)) {Q : Int → Mm → Prop} (v1 : Int) (v2 : Int) (v3 : Int) (v4 : Int) (v5 : Int) (v6 : Int) (M : Mm) (h : wX12_look v1 v2 v3 v4 v5 v6 M Q) : Wa Γ 7 (Kf Γ (QI Q) 0 0) 0 0 0 [(0, aR 102), (1, aI v1), (2, aI v2), (3, aI v3), (4, aI v4), (5, aI v5), (6, aI v6)] [] (NC, RF, M) := by
  unfold wX12_look at h
  refine a_iload_n hΓ 2 dX12_look_0 rfl rfl ?_
  obtain ⟨P1, q2, h⟩ := h
  refine n_callS (av := [aI v2]) (st := []) hΓ (ct_wX12_isDay _ _ v2 M P1 q2) my_X12_isDay ml_RX12_109 rfl (Nat.le_trans (by decide) hh) (by decide) (Nat.le_of_ble_eq_true rfl) rfl dX12_look_1 (fun v Z' hq => ?_)
  obtain ⟨r3, M4, rfl, rfl, hq⟩ := hq
  have h := h r3 M4 hq
  dsimp only at h
  obtain ⟨g5, h⟩ := h
  refine a_if_eq (tgt := 49) hΓ g5 dX12_look_4 (by decide) (fun c6 => ?_) (fun c6 => ?_)
  · rw [if_pos c6] at h
    refine a_aload_n hΓ 0 dX12_look_49 rfl rfl ?_
    refine a_iconst hΓ dX12_look_50 ?_
    obtain ⟨P7, q8, h⟩ := h
    refine n_callV (c := 102) (av := [aI (-1)]) (st := []) hΓ (ct_wX12_ends _ _ (-1) M4 P7 q8) my_X12_ends ml_RX12_106 ni_X12_ends kd_102 rfl lz_102 rfl (Nat.le_trans (by decide) hh) (by decide) (Nat.le_of_ble_eq_true rfl) rfl dX12_look_51 (fun v Z' hq => ?_)
    obtain ⟨r9, M10, rfl, rfl, hq⟩ := hq
    have h := h r9 M10 hq
    dsimp only at h
    exact a_iret hΓ hr dX12_look_54 ⟨_, _, rfl, rfl, h⟩
  · rw [if_neg c6] at h
    refine a_iload_n hΓ 3 dX12_look_7 rfl rfl ?_
    refine a_iconst hΓ dX12_look_8 ?_
    refine a_sipush hΓ dX12_look_9 (by decide) ?_
    obtain ⟨P11, q12, h⟩ := h
    refine n_callS (av := [aI v3, aI 0, aI 1000]) (st := []) hΓ (ct_wX12_in _ _ v3 0 1000 M4 P11 q12) my_X12_in ml_RX12_3 rfl (Nat.le_trans (by decide) hh) (by decide) (Nat.le_of_ble_eq_true rfl) rfl dX12_look_12 (fun v Z' hq => ?_)
    obtain ⟨r13, M14, rfl, rfl, hq⟩ := hq
    have h := h r13 M14 hq
    dsimp only at h
    obtain ⟨g15, h⟩ := h
    refine a_if_eq (tgt := 49) hΓ g15 dX12_look_15 (by decide) (fun c16 => ?_) (fun c16 => ?_)
    · rw [if_pos c16] at h
      refine a_aload_n hΓ 0 dX12_look_49 rfl rfl ?_
      refine a_iconst hΓ dX12_look_50 ?_
      obtain ⟨P17, q18, h⟩ := h
      refine n_callV (c := 102) (av := [aI (-1)]) (st := []) hΓ (ct_wX12_ends _ _ (-1) M14 P17 q18) my_X12_ends ml_RX12_106 ni_X12_ends kd_102 rfl lz_102 rfl (Nat.le_trans (by decide) hh) (by decide) (Nat.le_of_ble_eq_true rfl) rfl dX12_look_51 (fun v Z' hq => ?_)
      obtain ⟨r19, M20, rfl, rfl, hq⟩ := hq
      have h := h r19 M20 hq
      dsimp only at h
      exact a_iret hΓ hr dX12_look_54 ⟨_, _, rfl, rfl, h⟩
    · rw [if_neg c16] at h
      refine a_iload hΓ 4 dX12_look_18 rfl ?_
      refine a_iload_n hΓ 3 dX12_look_20 rfl rfl ?_
      refine a_sipush hΓ dX12_look_21 (by decide) ?_
      obtain ⟨P21, q22, h⟩ := h
      refine n_callS (av := [aI v4, aI v3, aI 1000]) (st := []) hΓ (ct_wX12_in _ _ v4 v3 1000 M14 P21 q22) my_X12_in ml_RX12_3 rfl (Nat.le_trans (by decide) hh) (by decide) (Nat.le_of_ble_eq_true rfl) rfl dX12_look_24 (fun v Z' hq => ?_)
      obtain ⟨r23, M24, rfl, rfl, hq⟩ := hq
      have h := h r23 M24 hq
      dsimp only at h
      obtain ⟨g25, h⟩ := h
      refine a_if_eq (tgt := 49) hΓ g25 dX12_look_27 (by decide) (fun c26 => ?_) (fun c26 => ?_)
      · rw [if_pos c26] at h
        refine a_aload_n hΓ 0 dX12_look_49 rfl rfl ?_
        refine a_iconst hΓ dX12_look_50 ?_
        obtain ⟨P27, q28, h⟩ := h
        refine n_callV (c := 102) (av := [aI (-1)]) (st := []) hΓ (ct_wX12_ends _ _ (-1) M24 P27 q28) my_X12_ends ml_RX12_106 ni_X12_ends kd_102 rfl lz_102 rfl (Nat.le_trans (by decide) hh) (by decide) (Nat.le_of_ble_eq_true rfl) rfl dX12_look_51 (fun v Z' hq => ?_)
        obtain ⟨r29, M30, rfl, rfl, hq⟩ := hq
        have h := h r29 M30 hq
        dsimp only at h
        exact a_iret hΓ hr dX12_look_54 ⟨_, _, rfl, rfl, h⟩
      · rw [if_neg c26] at h
        refine a_iload hΓ 5 dX12_look_30 rfl ?_
        refine a_iconst hΓ dX12_look_32 ?_
        refine a_bipush hΓ dX12_look_33 (by decide) ?_
        obtain ⟨P31, q32, h⟩ := h
        refine n_callS (av := [aI v5, aI 1, aI 100]) (st := []) hΓ (ct_wX12_in _ _ v5 1 100 M24 P31 q32) my_X12_in ml_RX12_3 rfl (Nat.le_trans (by decide) hh) (by decide) (Nat.le_of_ble_eq_true rfl) rfl dX12_look_35 (fun v Z' hq => ?_)
        obtain ⟨r33, M34, rfl, rfl, hq⟩ := hq
        have h := h r33 M34 hq
        dsimp only at h
        obtain ⟨g35, h⟩ := h
        refine a_if_eq (tgt := 49) hΓ g35 dX12_look_38 (by decide) (fun c36 => ?_) (fun c36 => ?_)
        · rw [if_pos c36] at h
          refine a_aload_n hΓ 0 dX12_look_49 rfl rfl ?_
          refine a_iconst hΓ dX12_look_50 ?_
          obtain ⟨P37, q38, h⟩ := h
          refine n_callV (c := 102) (av := [aI (-1)]) (st := []) hΓ (ct_wX12_ends _ _ (-1) M34 P37 q38) my_X12_ends ml_RX12_106 ni_X12_ends kd_102 rfl lz_102 rfl (Nat.le_trans (by decide) hh) (by decide) (Nat.le_of_ble_eq_true rfl) rfl dX12_look_51 (fun v Z' hq => ?_)
          obtain ⟨r39, M40, rfl, rfl, hq⟩ := hq
          have h := h r39 M40 hq
          dsimp only at h
          exact a_iret hΓ hr dX12_look_54 ⟨_, _, rfl, rfl, h⟩
        · rw [if_neg c36] at h
          refine a_iload hΓ 6 dX12_look_41 rfl ?_
          obtain ⟨P41, q42, h⟩ := h
          refine n_callS (av := [aI v6]) (st := []) hΓ (ct_wX12_isDay _ _ v6 M34 P41 q42) my_X12_isDay ml_RX12_109 rfl (Nat.le_trans (by decide) hh) (by decide) (Nat.le_of_ble_eq_true rfl) rfl dX12_look_43 (fun v Z' hq => ?_)
          obtain ⟨r43, M44, rfl, rfl, hq⟩ := hq
          have h := h r43 M44 hq
          dsimp only at h
          obtain ⟨g45, h⟩ := h
          refine a_if_ne (tgt := 55) hΓ g45 dX12_look_46 (by decide) (fun c46 => ?_) (fun c46 => ?_)
          · rw [if_pos c46] at h
            refine a_aload_n hΓ 0 dX12_look_49 rfl rfl ?_
            refine a_iconst hΓ dX12_look_50 ?_
            obtain ⟨P47, q48, h⟩ := h
            refine n_callV (c := 102) (av := [aI (-1)]) (st := []) hΓ (ct_wX12_ends _ _ (-1) M44 P47 q48) my_X12_ends ml_RX12_106 ni_X12_ends kd_102 rfl lz_102 rfl (Nat.le_trans (by decide) hh) (by decide) (Nat.le_of_ble_eq_true rfl) rfl dX12_look_51 (fun v Z' hq => ?_)
            obtain ⟨r49, M50, rfl, rfl, hq⟩ := hq
            have h := h r49 M50 hq
            dsimp only at h
            exact a_iret hΓ hr dX12_look_54 ⟨_, _, rfl, rfl, h⟩
          · rw [if_neg c46] at h
            refine a_aload_n hΓ 0 dX12_look_55 rfl rfl ?_
            refine a_iload_n hΓ 1 dX12_look_56 rfl rfl ?_
            obtain ⟨P51, q52, h⟩ := h
            refine n_callV (c := 102) (av := [aI v1]) (st := []) hΓ (ct_wX12_isShip _ _ v1 M44 P51 q52) my_X12_isShip ml_RX12_113 ni_X12_isShip kd_102 rfl lz_102 rfl (Nat.le_trans (by decide) hh) (by decide) (Nat.le_of_ble_eq_true rfl) rfl dX12_look_57 (fun v Z' hq => ?_)
            obtain ⟨r53, M54, rfl, rfl, hq⟩ := hq
            have h := h r53 M54 hq
            dsimp only at h
            obtain ⟨g55, h⟩ := h
            refine a_if_ne (tgt := 70) hΓ g55 dX12_look_60 (by decide) (fun c56 => ?_) (fun c56 => ?_)
            · rw [if_pos c56] at h
              refine a_aload_n hΓ 0 dX12_look_63 rfl rfl ?_
              refine a_bipush hΓ dX12_look_64 (by decide) ?_
              obtain ⟨P57, q58, h⟩ := h
              refine n_callV (c := 102) (av := [aI (-2)]) (st := []) hΓ (ct_wX12_ends _ _ (-2) M54 P57 q58) my_X12_ends ml_RX12_106 ni_X12_ends kd_102 rfl lz_102 rfl (Nat.le_trans (by decide) hh) (by decide) (Nat.le_of_ble_eq_true rfl) rfl dX12_look_66 (fun v Z' hq => ?_)
              obtain ⟨r59, M60, rfl, rfl, hq⟩ := hq
              have h := h r59 M60 hq
              dsimp only at h
              exact a_iret hΓ hr dX12_look_69 ⟨_, _, rfl, rfl, h⟩
            · rw [if_neg c56] at h
              refine a_aload_n hΓ 0 dX12_look_70 rfl rfl ?_
              refine a_iconst hΓ dX12_look_71 ?_
              obtain ⟨P61, q62, h⟩ := h
              refine n_callV (c := 102) (av := [aI 3]) (st := []) hΓ (ct_wX12_many _ _ 3 M54 P61 q62) my_X12_many ml_RX12_102 ni_X12_many kd_102 rfl lz_102 rfl (Nat.le_trans (by decide) hh) (by decide) (Nat.le_of_ble_eq_true rfl) rfl dX12_look_72 (fun v Z' hq => ?_)
              obtain ⟨r63, M64, rfl, rfl, hq⟩ := hq
              have h := h r63 M64 hq
              dsimp only at h
              refine a_bipush hΓ dX12_look_75 (by decide) ?_
              obtain ⟨g65, h⟩ := h
              refine a_icmp_ne (tgt := 87) hΓ g65 (inRl (by decide)) dX12_look_77 (by decide) (fun c66 => ?_) (fun c66 => ?_)
              · rw [if_pos c66] at h
                refine a_aload_n hΓ 0 dX12_look_80 rfl rfl ?_
                refine a_bipush hΓ dX12_look_81 (by decide) ?_
                obtain ⟨P67, q68, h⟩ := h
                refine n_callV (c := 102) (av := [aI (-5)]) (st := []) hΓ (ct_wX12_ends _ _ (-5) M64 P67 q68) my_X12_ends ml_RX12_106 ni_X12_ends kd_102 rfl lz_102 rfl (Nat.le_trans (by decide) hh) (by decide) (Nat.le_of_ble_eq_true rfl) rfl dX12_look_83 (fun v Z' hq => ?_)
                obtain ⟨r69, M70, rfl, rfl, hq⟩ := hq
                have h := h r69 M70 hq
                dsimp only at h
                exact a_iret hΓ hr dX12_look_86 ⟨_, _, rfl, rfl, h⟩
              · rw [if_neg c66] at h
                refine a_aload_n hΓ 0 dX12_look_87 rfl rfl ?_
                refine a_aload_n hΓ 0 dX12_look_88 rfl rfl ?_
                refine a_iload_n hΓ 1 dX12_look_89 rfl rfl ?_
                refine a_iload_n hΓ 2 dX12_look_90 rfl rfl ?_
                refine a_iload_n hΓ 3 dX12_look_91 rfl rfl ?_
                refine a_iload hΓ 4 dX12_look_92 rfl ?_
                refine a_iload hΓ 5 dX12_look_94 rfl ?_
                refine a_iload hΓ 6 dX12_look_96 rfl ?_
                refine a_iconst hΓ dX12_look_98 ?_
                obtain ⟨P71, q72, h⟩ := h
                refine n_callV (c := 102) (av := [aI v1, aI v2, aI v3, aI v4, aI v5, aI v6, aI 1]) (st := [aR 102]) hΓ (ct_wX12_adds _ _ v1 v2 v3 v4 v5 v6 1 M64 P71 q72) my_X12_adds ml_RX12_147 ni_X12_adds kd_102 rfl lz_102 rfl (Nat.le_trans (by decide) hh) (by decide) (Nat.le_of_ble_eq_true rfl) rfl dX12_look_99 (fun v Z' hq => ?_)
                obtain ⟨r73, M74, rfl, rfl, hq⟩ := hq
                have h := h r73 M74 hq
                dsimp only at h
                obtain ⟨P75, q76, h⟩ := h
                refine n_callV (c := 102) (av := [aI r73]) (st := []) hΓ (ct_wX12_ends _ _ r73 M74 P75 q76) my_X12_ends ml_RX12_106 ni_X12_ends kd_102 rfl lz_102 rfl (Nat.le_trans (by decide) hh) (by decide) (Nat.le_of_ble_eq_true rfl) rfl dX12_look_102 (fun v Z' hq => ?_)
                obtain ⟨r77, M78, rfl, rfl, hq⟩ := hq
                have h := h r77 M78 hq
                dsimp only at h
                exact a_iret hΓ hr dX12_look_105 ⟨_, _, rfl, rfl, h⟩
theorem ct_wX12_look (l : Launch) (g : Gp) (v1 : Int) (v2 : Int) (v3 : Int) (v4 : Int) (v5 : Int) (v6 : Int) (M : Mm) (Q : Int → Mm → Prop) (h : wX12_look v1 v2 v3 v4 v5 v6 M Q) : Ct l g yX12_look cX12_look 7 (some .int) 3 0 0 [aR 102, aI v1, aI v2, aI v3, aI v4, aI v5, aI v6] (NC, RF, M) (QI Q) :=
  ct_of (by decide) (Nat.le_of_ble_eq_true rfl) (fun Γ hg hl hr _ hΓ => by subst hg; subst hl; exact s_wX12_look hΓ (by decide) hr v1 v2 v3 v4 v5 v6 M h)
def wX12_readAs_65 (Q : Int → Mm → Prop) (v1 : Int) (v2 : Int) : Nat → Int → Int → Mm → Prop
  | 0, _, _, _ => False
  | f + 1, v3, v4, M => (inR v4) ∧
    (if v4 ≤ 1000 then
      Bd (wX12_logAt v1 0 M) (fun r5 M6 =>
      Bd (wX12_logAt v1 1 M6) (fun r9 M10 =>
      Bd (wX12_fuel r5 r9 v4 M10) (fun r13 M14 =>
      Bd (wX12_logAt v1 2 M14) (fun r17 M18 =>
      Bd (wX12_logAt v1 3 M18) (fun r21 M22 =>
      Bd (wX12_logAt v1 2 M22) (fun r25 M26 =>
      Bd (wX12_logAt v1 3 M26) (fun r29 M30 =>
      Bd (wX12_in r13 (r17 - r21) (r25 + r29) M30) (fun r33 M34 =>
      (inR r33) ∧
      (if r33 = 0 then
        (wX12_readAs_65 Q v1 v2 f) v3 (v4 + 1) M34
      else
        (inR v2) ∧
        (if v2 = 1 then
          (wX12_readAs_65 Q v1 v2 f) v4 (v4 + 1) M34
        else
          (inR v3) ∧
          (if v3 = (-1) then
            (wX12_readAs_65 Q v1 v2 f) v4 (v4 + 1) M34
          else
            (wX12_readAs_65 Q v1 v2 f) v3 (v4 + 1) M34)))))))))))
    else
      Q v3 M)
set_option maxHeartbeats 4000000 in
theorem s_wX12_readAs_65 {Γ : Cx} {h : Nat} (hΓ : Ok Γ cX12_readAs RX12 6 h 0 0) (hh : 7 ≤ h) (hr : (cxm Γ).sig.returnType = (some .int)) {Q : Int → Mm → Prop} {v1 v2 : Int}   : ∀ (f : Nat) (v3 : Int) (v4 : Int) (M : Mm), wX12_readAs_65 Q v1 v2 f v3 v4 M → Wa Γ 6 (Kf Γ (QI Q) 0 0) 0 0 65 [(0, aR 102), (1, aI v1), (2, aI v2), (3, aI v3), (4, aI v4)] [] (NC, RF, M) := by
  intro f
  induction f with
  | zero => intro v3 v4 M h; exact h.elim
  | succ f ih =>
    intro v3 v4 M h
    unfold wX12_readAs_65 at h
    refine a_iload hΓ 4 dX12_readAs_65 rfl ?_
    refine a_sipush hΓ dX12_readAs_67 (by decide) ?_
    obtain ⟨g1, h⟩ := h
    refine a_icmp_gt (tgt := 146) hΓ g1 (inRl (by decide)) dX12_readAs_70 (by decide) (fun c2 => ?_) (fun c2 => ?_)
    · rw [if_pos c2] at h
      refine a_aload_n hΓ 0 dX12_readAs_73 rfl rfl ?_
      refine a_aload_n hΓ 0 dX12_readAs_74 rfl rfl ?_
      refine a_iload_n hΓ 1 dX12_readAs_75 rfl rfl ?_
      refine a_iconst hΓ dX12_readAs_76 ?_
      obtain ⟨P3, q4, h⟩ := h
      refine n_callV (c := 102) (av := [aI v1, aI 0]) (st := [aR 102]) hΓ (ct_wX12_logAt _ _ v1 0 M P3 q4) my_X12_logAt ml_RX12_151 ni_X12_logAt kd_102 rfl lz_102 rfl (Nat.le_trans (by decide) hh) (by decide) (Nat.le_of_ble_eq_true rfl) rfl dX12_readAs_77 (fun v Z' hq => ?_)
      obtain ⟨r5, M6, rfl, rfl, hq⟩ := hq
      have h := h r5 M6 hq
      dsimp only at h
      refine a_aload_n hΓ 0 dX12_readAs_80 rfl rfl ?_
      refine a_iload_n hΓ 1 dX12_readAs_81 rfl rfl ?_
      refine a_iconst hΓ dX12_readAs_82 ?_
      obtain ⟨P7, q8, h⟩ := h
      refine n_callV (c := 102) (av := [aI v1, aI 1]) (st := [aI r5, aR 102]) hΓ (ct_wX12_logAt _ _ v1 1 M6 P7 q8) my_X12_logAt ml_RX12_151 ni_X12_logAt kd_102 rfl lz_102 rfl (Nat.le_trans (by decide) hh) (by decide) (Nat.le_of_ble_eq_true rfl) rfl dX12_readAs_83 (fun v Z' hq => ?_)
      obtain ⟨r9, M10, rfl, rfl, hq⟩ := hq
      have h := h r9 M10 hq
      dsimp only at h
      refine a_iload hΓ 4 dX12_readAs_86 rfl ?_
      obtain ⟨P11, q12, h⟩ := h
      refine n_callV (c := 102) (av := [aI r5, aI r9, aI v4]) (st := []) hΓ (ct_wX12_fuel _ _ r5 r9 v4 M10 P11 q12) my_X12_fuel ml_RX12_144 ni_X12_fuel kd_102 rfl lz_102 rfl (Nat.le_trans (by decide) hh) (by decide) (Nat.le_of_ble_eq_true rfl) rfl dX12_readAs_88 (fun v Z' hq => ?_)
      obtain ⟨r13, M14, rfl, rfl, hq⟩ := hq
      have h := h r13 M14 hq
      dsimp only at h
      refine a_istore (ls' := [(5, aI r13), (0, aR 102), (1, aI v1), (2, aI v2), (3, aI v3), (4, aI v4)]) hΓ dX12_readAs_91 (by decide) rfl ?_
      refine a_iload hΓ 0 dX12_readAs_93 rfl ?_
      refine a_aload_n hΓ 1 dX12_readAs_95 rfl rfl ?_
      refine a_iload_n hΓ 2 dX12_readAs_96 rfl rfl ?_
      refine a_iconst hΓ dX12_readAs_97 ?_
      obtain ⟨P15, q16, h⟩ := h
      refine n_callV (c := 102) (av := [aI v1, aI 2]) (st := [aI r13]) hΓ (ct_wX12_logAt _ _ v1 2 M14 P15 q16) my_X12_logAt ml_RX12_151 ni_X12_logAt kd_102 rfl lz_102 rfl (Nat.le_trans (by decide) hh) (by decide) (Nat.le_of_ble_eq_true rfl) rfl dX12_readAs_98 (fun v Z' hq => ?_)
      obtain ⟨r17, M18, rfl, rfl, hq⟩ := hq
      have h := h r17 M18 hq
      dsimp only at h
      refine a_aload_n hΓ 1 dX12_readAs_101 rfl rfl ?_
      refine a_iload_n hΓ 2 dX12_readAs_102 rfl rfl ?_
      refine a_iconst hΓ dX12_readAs_103 ?_
      obtain ⟨P19, q20, h⟩ := h
      refine n_callV (c := 102) (av := [aI v1, aI 3]) (st := [aI r17, aI r13]) hΓ (ct_wX12_logAt _ _ v1 3 M18 P19 q20) my_X12_logAt ml_RX12_151 ni_X12_logAt kd_102 rfl lz_102 rfl (Nat.le_trans (by decide) hh) (by decide) (Nat.le_of_ble_eq_true rfl) rfl dX12_readAs_104 (fun v Z' hq => ?_)
      obtain ⟨r21, M22, rfl, rfl, hq⟩ := hq
      have h := h r21 M22 hq
      dsimp only at h
      refine a_isub hΓ dX12_readAs_107 ?_
      refine a_aload_n hΓ 1 dX12_readAs_108 rfl rfl ?_
      refine a_iload_n hΓ 2 dX12_readAs_109 rfl rfl ?_
      refine a_iconst hΓ dX12_readAs_110 ?_
      obtain ⟨P23, q24, h⟩ := h
      refine n_callV (c := 102) (av := [aI v1, aI 2]) (st := [aI (r17 - r21), aI r13]) hΓ (ct_wX12_logAt _ _ v1 2 M22 P23 q24) my_X12_logAt ml_RX12_151 ni_X12_logAt kd_102 rfl lz_102 rfl (Nat.le_trans (by decide) hh) (by decide) (Nat.le_of_ble_eq_true rfl) rfl dX12_readAs_111 (fun v Z' hq => ?_)
      obtain ⟨r25, M26, rfl, rfl, hq⟩ := hq
      have h := h r25 M26 hq
      dsimp only at h
      refine a_aload_n hΓ 1 dX12_readAs_114 rfl rfl ?_
      refine a_iload_n hΓ 2 dX12_readAs_115 rfl rfl ?_
      refine a_iconst hΓ dX12_readAs_116 ?_
      obtain ⟨P27, q28, h⟩ := h
      refine n_callV (c := 102) (av := [aI v1, aI 3]) (st := [aI r25, aI (r17 - r21), aI r13]) hΓ (ct_wX12_logAt _ _ v1 3 M26 P27 q28) my_X12_logAt ml_RX12_151 ni_X12_logAt kd_102 rfl lz_102 rfl (Nat.le_trans (by decide) hh) (by decide) (Nat.le_of_ble_eq_true rfl) rfl dX12_readAs_117 (fun v Z' hq => ?_)
      obtain ⟨r29, M30, rfl, rfl, hq⟩ := hq
      have h := h r29 M30 hq
      dsimp only at h
      refine a_iadd hΓ dX12_readAs_120 ?_
      obtain ⟨P31, q32, h⟩ := h
      refine n_callS (av := [aI r13, aI (r17 - r21), aI (r25 + r29)]) (st := []) hΓ (ct_wX12_in _ _ r13 (r17 - r21) (r25 + r29) M30 P31 q32) my_X12_in ml_RX12_3 rfl (Nat.le_trans (by decide) hh) (by decide) (Nat.le_of_ble_eq_true rfl) rfl dX12_readAs_121 (fun v Z' hq => ?_)
      obtain ⟨r33, M34, rfl, rfl, hq⟩ := hq
      have h := h r33 M34 hq
      dsimp only at h
      obtain ⟨g35, h⟩ := h
      refine a_if_eq (tgt := 140) hΓ g35 dX12_readAs_124 (by decide) (fun c36 => ?_) (fun c36 => ?_)
      · rw [if_pos c36] at h
        refine a_iinc (ls' := [(4, aI (v4 + 1)), (5, aI r13), (0, aR 102), (1, aI v1), (2, aI v2), (3, aI v3)]) hΓ 5 dX12_readAs_140 rfl (by decide) rfl ?_
        refine a_goto (tgt := 65) hΓ dX12_readAs_143 (by decide) ?_
        refine a_sub (ls' := [(0, aR 102), (1, aI v1), (2, aI v2), (3, aI v3), (4, aI (v4 + 1))]) [2, 3, 4, 5, 0] rfl ?_
        exact ih v3 (v4 + 1) M34 h
      · rw [if_neg c36] at h
        refine a_iload_n hΓ 3 dX12_readAs_127 rfl rfl ?_
        refine a_iconst hΓ dX12_readAs_128 ?_
        obtain ⟨g37, h⟩ := h
        refine a_icmp_eq (tgt := 137) hΓ g37 (inRl (by decide)) dX12_readAs_129 (by decide) (fun c38 => ?_) (fun c38 => ?_)
        · rw [if_pos c38] at h
          refine a_iload hΓ 5 dX12_readAs_137 rfl ?_
          refine a_istore_n (ls' := [(3, aI v4), (5, aI r13), (0, aR 102), (1, aI v1), (2, aI v2), (4, aI v4)]) hΓ dX12_readAs_139 rfl (by decide) rfl ?_
          refine a_iinc (ls' := [(4, aI (v4 + 1)), (3, aI v4), (5, aI r13), (0, aR 102), (1, aI v1), (2, aI v2)]) hΓ 5 dX12_readAs_140 rfl (by decide) rfl ?_
          refine a_goto (tgt := 65) hΓ dX12_readAs_143 (by decide) ?_
          refine a_sub (ls' := [(0, aR 102), (1, aI v1), (2, aI v2), (3, aI v4), (4, aI (v4 + 1))]) [3, 4, 5, 1, 0] rfl ?_
          exact ih v4 (v4 + 1) M34 h
        · rw [if_neg c38] at h
          refine a_iload_n hΓ 4 dX12_readAs_132 rfl rfl ?_
          refine a_iconst hΓ dX12_readAs_133 ?_
          obtain ⟨g39, h⟩ := h
          refine a_icmp_ne (tgt := 140) hΓ g39 (inRl (by decide)) dX12_readAs_134 (by decide) (fun c40 => ?_) (fun c40 => ?_)
          · rw [if_pos c40] at h
            refine a_iload hΓ 5 dX12_readAs_137 rfl ?_
            refine a_istore_n (ls' := [(3, aI v4), (5, aI r13), (0, aR 102), (1, aI v1), (2, aI v2), (4, aI v4)]) hΓ dX12_readAs_139 rfl (by decide) rfl ?_
            refine a_iinc (ls' := [(4, aI (v4 + 1)), (3, aI v4), (5, aI r13), (0, aR 102), (1, aI v1), (2, aI v2)]) hΓ 5 dX12_readAs_140 rfl (by decide) rfl ?_
            refine a_goto (tgt := 65) hΓ dX12_readAs_143 (by decide) ?_
            refine a_sub (ls' := [(0, aR 102), (1, aI v1), (2, aI v2), (3, aI v4), (4, aI (v4 + 1))]) [3, 4, 5, 1, 0] rfl ?_
            exact ih v4 (v4 + 1) M34 h
          · rw [if_neg c40] at h
            refine a_iinc (ls' := [(4, aI (v4 + 1)), (5, aI r13), (0, aR 102), (1, aI v1), (2, aI v2), (3, aI v3)]) hΓ 5 dX12_readAs_140 rfl (by decide) rfl ?_
            refine a_goto (tgt := 65) hΓ dX12_readAs_143 (by decide) ?_
            refine a_sub (ls' := [(0, aR 102), (1, aI v1), (2, aI v2), (3, aI v3), (4, aI (v4 + 1))]) [2, 3, 4, 5, 0] rfl ?_
            exact ih v3 (v4 + 1) M34 h
    · rw [if_neg c2] at h
      refine a_iload_n hΓ 3 dX12_readAs_146 rfl rfl ?_
      exact a_iret hΓ hr dX12_readAs_147 ⟨_, _, rfl, rfl, h⟩
def wX12_readAs (v1 : Int) (v2 : Int) (M : Mm) (Q : Int → Mm → Prop) : Prop :=
    Bd (wX12_logAt v1 6 M) (fun r3 M4 =>
    (inR r3) ∧
    (if r3 = 1 then
      Bd (wX12_logAt v1 2 M4) (fun r9 M10 =>
      Bd (wX12_logAt v1 3 M10) (fun r13 M14 =>
      (inR r9) ∧
      (inR r13) ∧
      (if r9 ≤ r13 then
        Bd (wX12_logAt v1 (2 + v2) M14) (fun r20 M21 =>
        Q r20 M21)
      else
        Q (-1) M14)))
    else
      Bd (wX12_logAt v1 0 M4) (fun r24 M25 =>
      Bd (wX12_logAt v1 1 M25) (fun r28 M29 =>
      Bd (wX12_speedOn r24 r28 M29) (fun r32 M33 =>
      (inR r32) ∧
      (if r32 = 0 then
        Q (-1) M33
      else
        ∃ n, wX12_readAs_65 Q v1 v2 n (-1) 0 M33))))))
set_option maxHeartbeats 4000000 in
theorem s_wX12_readAs {Γ : Cx} {h : Nat} (hΓ : Ok Γ cX12_readAs RX12 6 h 0 0) (hh : 7 ≤ h) (hr : (cxm Γ).sig.returnType = (some .int)) {Q : Int → Mm → Prop} (v1 : Int) (v2 : Int) (M : Mm) (h : wX12_readAs v1 v2 M Q) : Wa Γ 6 (Kf Γ (QI Q) 0 0) 0 0 0 [(0, aR 102), (1, aI v1), (2, aI v2)] [] (NC, RF, M) := by
  unfold wX12_readAs at h
  refine a_aload_n hΓ 0 dX12_readAs_0 rfl rfl ?_
  refine a_iload_n hΓ 1 dX12_readAs_1 rfl rfl ?_
  refine a_bipush hΓ dX12_readAs_2 (by decide) ?_
  obtain ⟨P1, q2, h⟩ := h
  refine n_callV (c := 102) (av := [aI v1, aI 6]) (st := []) hΓ (ct_wX12_logAt _ _ v1 6 M P1 q2) my_X12_logAt ml_RX12_151 ni_X12_logAt kd_102 rfl lz_102 rfl (Nat.le_trans (by decide) hh) (by decide) (Nat.le_of_ble_eq_true rfl) rfl dX12_readAs_4 (fun v Z' hq => ?_)
  obtain ⟨r3, M4, rfl, rfl, hq⟩ := hq
  have h := h r3 M4 hq
  dsimp only at h
  refine a_iconst hΓ dX12_readAs_7 ?_
  obtain ⟨g5, h⟩ := h
  refine a_icmp_ne (tgt := 39) hΓ g5 (inRl (by decide)) dX12_readAs_8 (by decide) (fun c6 => ?_) (fun c6 => ?_)
  · rw [if_pos c6] at h
    refine a_aload_n hΓ 0 dX12_readAs_11 rfl rfl ?_
    refine a_iload_n hΓ 1 dX12_readAs_12 rfl rfl ?_
    refine a_iconst hΓ dX12_readAs_13 ?_
    obtain ⟨P7, q8, h⟩ := h
    refine n_callV (c := 102) (av := [aI v1, aI 2]) (st := []) hΓ (ct_wX12_logAt _ _ v1 2 M4 P7 q8) my_X12_logAt ml_RX12_151 ni_X12_logAt kd_102 rfl lz_102 rfl (Nat.le_trans (by decide) hh) (by decide) (Nat.le_of_ble_eq_true rfl) rfl dX12_readAs_14 (fun v Z' hq => ?_)
    obtain ⟨r9, M10, rfl, rfl, hq⟩ := hq
    have h := h r9 M10 hq
    dsimp only at h
    refine a_aload_n hΓ 0 dX12_readAs_17 rfl rfl ?_
    refine a_iload_n hΓ 1 dX12_readAs_18 rfl rfl ?_
    refine a_iconst hΓ dX12_readAs_19 ?_
    obtain ⟨P11, q12, h⟩ := h
    refine n_callV (c := 102) (av := [aI v1, aI 3]) (st := [aI r9]) hΓ (ct_wX12_logAt _ _ v1 3 M10 P11 q12) my_X12_logAt ml_RX12_151 ni_X12_logAt kd_102 rfl lz_102 rfl (Nat.le_trans (by decide) hh) (by decide) (Nat.le_of_ble_eq_true rfl) rfl dX12_readAs_20 (fun v Z' hq => ?_)
    obtain ⟨r13, M14, rfl, rfl, hq⟩ := hq
    have h := h r13 M14 hq
    dsimp only at h
    obtain ⟨g15, h⟩ := h
    obtain ⟨g16, h⟩ := h
    refine a_icmp_le (tgt := 30) hΓ g15 g16 dX12_readAs_23 (by decide) (fun c17 => ?_) (fun c17 => ?_)
    · rw [if_pos c17] at h
      refine a_aload_n hΓ 0 dX12_readAs_30 rfl rfl ?_
      refine a_iload_n hΓ 1 dX12_readAs_31 rfl rfl ?_
      refine a_iconst hΓ dX12_readAs_32 ?_
      refine a_iload_n hΓ 2 dX12_readAs_33 rfl rfl ?_
      refine a_iadd hΓ dX12_readAs_34 ?_
      obtain ⟨P18, q19, h⟩ := h
      refine n_callV (c := 102) (av := [aI v1, aI (2 + v2)]) (st := []) hΓ (ct_wX12_logAt _ _ v1 (2 + v2) M14 P18 q19) my_X12_logAt ml_RX12_151 ni_X12_logAt kd_102 rfl lz_102 rfl (Nat.le_trans (by decide) hh) (by decide) (Nat.le_of_ble_eq_true rfl) rfl dX12_readAs_35 (fun v Z' hq => ?_)
      obtain ⟨r20, M21, rfl, rfl, hq⟩ := hq
      have h := h r20 M21 hq
      dsimp only at h
      exact a_iret hΓ hr dX12_readAs_38 ⟨_, _, rfl, rfl, h⟩
    · rw [if_neg c17] at h
      refine a_iconst hΓ dX12_readAs_26 ?_
      refine a_goto (tgt := 38) hΓ dX12_readAs_27 (by decide) ?_
      exact a_iret hΓ hr dX12_readAs_38 ⟨_, _, rfl, rfl, h⟩
  · rw [if_neg c6] at h
    refine a_aload_n hΓ 0 dX12_readAs_39 rfl rfl ?_
    refine a_aload_n hΓ 0 dX12_readAs_40 rfl rfl ?_
    refine a_iload_n hΓ 1 dX12_readAs_41 rfl rfl ?_
    refine a_iconst hΓ dX12_readAs_42 ?_
    obtain ⟨P22, q23, h⟩ := h
    refine n_callV (c := 102) (av := [aI v1, aI 0]) (st := [aR 102]) hΓ (ct_wX12_logAt _ _ v1 0 M4 P22 q23) my_X12_logAt ml_RX12_151 ni_X12_logAt kd_102 rfl lz_102 rfl (Nat.le_trans (by decide) hh) (by decide) (Nat.le_of_ble_eq_true rfl) rfl dX12_readAs_43 (fun v Z' hq => ?_)
    obtain ⟨r24, M25, rfl, rfl, hq⟩ := hq
    have h := h r24 M25 hq
    dsimp only at h
    refine a_aload_n hΓ 0 dX12_readAs_46 rfl rfl ?_
    refine a_iload_n hΓ 1 dX12_readAs_47 rfl rfl ?_
    refine a_iconst hΓ dX12_readAs_48 ?_
    obtain ⟨P26, q27, h⟩ := h
    refine n_callV (c := 102) (av := [aI v1, aI 1]) (st := [aI r24, aR 102]) hΓ (ct_wX12_logAt _ _ v1 1 M25 P26 q27) my_X12_logAt ml_RX12_151 ni_X12_logAt kd_102 rfl lz_102 rfl (Nat.le_trans (by decide) hh) (by decide) (Nat.le_of_ble_eq_true rfl) rfl dX12_readAs_49 (fun v Z' hq => ?_)
    obtain ⟨r28, M29, rfl, rfl, hq⟩ := hq
    have h := h r28 M29 hq
    dsimp only at h
    obtain ⟨P30, q31, h⟩ := h
    refine n_callV (c := 102) (av := [aI r24, aI r28]) (st := []) hΓ (ct_wX12_speedOn _ _ r24 r28 M29 P30 q31) my_X12_speedOn ml_RX12_134 ni_X12_speedOn kd_102 rfl lz_102 rfl (Nat.le_trans (by decide) hh) (by decide) (Nat.le_of_ble_eq_true rfl) rfl dX12_readAs_52 (fun v Z' hq => ?_)
    obtain ⟨r32, M33, rfl, rfl, hq⟩ := hq
    have h := h r32 M33 hq
    dsimp only at h
    obtain ⟨g34, h⟩ := h
    refine a_if_ne (tgt := 60) hΓ g34 dX12_readAs_55 (by decide) (fun c35 => ?_) (fun c35 => ?_)
    · rw [if_pos c35] at h
      refine a_iconst hΓ dX12_readAs_58 ?_
      exact a_iret hΓ hr dX12_readAs_59 ⟨_, _, rfl, rfl, h⟩
    · rw [if_neg c35] at h
      refine a_iconst hΓ dX12_readAs_60 ?_
      refine a_istore_n (ls' := [(3, aI (-1)), (0, aR 102), (1, aI v1), (2, aI v2)]) hΓ dX12_readAs_61 rfl (by decide) rfl ?_
      refine a_iconst hΓ dX12_readAs_62 ?_
      refine a_istore (ls' := [(4, aI 0), (3, aI (-1)), (0, aR 102), (1, aI v1), (2, aI v2)]) hΓ dX12_readAs_63 (by decide) rfl ?_
      refine a_sub (ls' := [(0, aR 102), (1, aI v1), (2, aI v2), (3, aI (-1)), (4, aI 0)]) [2, 3, 4, 1, 0] rfl ?_
      obtain ⟨f36, h⟩ := h
      exact s_wX12_readAs_65 hΓ (Nat.le_trans (by decide) hh) hr  f36 (-1) 0 M33 h
theorem ct_wX12_readAs (l : Launch) (g : Gp) (v1 : Int) (v2 : Int) (M : Mm) (Q : Int → Mm → Prop) (h : wX12_readAs v1 v2 M Q) : Ct l g yX12_readAs cX12_readAs 6 (some .int) 7 0 0 [aR 102, aI v1, aI v2] (NC, RF, M) (QI Q) :=
  ct_of (by decide) (Nat.le_of_ble_eq_true rfl) (fun Γ hg hl hr _ hΓ => by subst hg; subst hl; exact s_wX12_readAs hΓ (by decide) hr v1 v2 M h)
def wX12_of (v1 : Int) (v2 : Int) (M : Mm) (Q : Int → Mm → Prop) : Prop :=
    Bd (wX12_isLog v1 M) (fun r3 M4 =>
    (inR r3) ∧
    (if r3 = 0 then
      Q (-1) M4
    else
      Bd (wX12_in v2 0 6 M4) (fun r9 M10 =>
      (inR r9) ∧
      (if r9 = 0 then
        Q (-1) M10
      else
        (inR v2) ∧
        (if v2 < 2 then
          Bd (wX12_logAt v1 v2 M10) (fun r17 M18 =>
          Q r17 M18)
        else
          (if v2 < 4 then
            Bd (wX12_readAs v1 (v2 - 2) M10) (fun r22 M23 =>
            Q r22 M23)
          else
            (if v2 = 6 then
              Bd (wX12_logAt v1 7 M10) (fun r27 M28 =>
              Q r27 M28)
            else
              Bd (wX12_logAt v1 v2 M10) (fun r31 M32 =>
              Q r31 M32))))))))
set_option maxHeartbeats 4000000 in
theorem s_wX12_of {Γ : Cx} {h : Nat} (hΓ : Ok Γ cX12_of RX12 3 h 0 0) (hh : 8 ≤ h) (hr : (cxm Γ).sig.returnType = (some .int)) {Q : Int → Mm → Prop} (v1 : Int) (v2 : Int) (M : Mm) (h : wX12_of v1 v2 M Q) : Wa Γ 3 (Kf Γ (QI Q) 0 0) 0 0 0 [(0, aR 102), (1, aI v1), (2, aI v2)] [] (NC, RF, M) := by
  unfold wX12_of at h
  refine a_aload_n hΓ 0 dX12_of_0 rfl rfl ?_
  refine a_iload_n hΓ 1 dX12_of_1 rfl rfl ?_
  obtain ⟨P1, q2, h⟩ := h
  refine n_callV (c := 102) (av := [aI v1]) (st := []) hΓ (ct_wX12_isLog _ _ v1 M P1 q2) my_X12_isLog ml_RX12_154 ni_X12_isLog kd_102 rfl lz_102 rfl (Nat.le_trans (by decide) hh) (by decide) (Nat.le_of_ble_eq_true rfl) rfl dX12_of_2 (fun v Z' hq => ?_)
  obtain ⟨r3, M4, rfl, rfl, hq⟩ := hq
  have h := h r3 M4 hq
  dsimp only at h
  obtain ⟨g5, h⟩ := h
  refine a_if_eq (tgt := 18) hΓ g5 dX12_of_5 (by decide) (fun c6 => ?_) (fun c6 => ?_)
  · rw [if_pos c6] at h
    refine a_iconst hΓ dX12_of_18 ?_
    exact a_iret hΓ hr dX12_of_19 ⟨_, _, rfl, rfl, h⟩
  · rw [if_neg c6] at h
    refine a_iload_n hΓ 2 dX12_of_8 rfl rfl ?_
    refine a_iconst hΓ dX12_of_9 ?_
    refine a_bipush hΓ dX12_of_10 (by decide) ?_
    obtain ⟨P7, q8, h⟩ := h
    refine n_callS (av := [aI v2, aI 0, aI 6]) (st := []) hΓ (ct_wX12_in _ _ v2 0 6 M4 P7 q8) my_X12_in ml_RX12_3 rfl (Nat.le_trans (by decide) hh) (by decide) (Nat.le_of_ble_eq_true rfl) rfl dX12_of_12 (fun v Z' hq => ?_)
    obtain ⟨r9, M10, rfl, rfl, hq⟩ := hq
    have h := h r9 M10 hq
    dsimp only at h
    obtain ⟨g11, h⟩ := h
    refine a_if_ne (tgt := 20) hΓ g11 dX12_of_15 (by decide) (fun c12 => ?_) (fun c12 => ?_)
    · rw [if_pos c12] at h
      refine a_iconst hΓ dX12_of_18 ?_
      exact a_iret hΓ hr dX12_of_19 ⟨_, _, rfl, rfl, h⟩
    · rw [if_neg c12] at h
      refine a_iload_n hΓ 2 dX12_of_20 rfl rfl ?_
      refine a_iconst hΓ dX12_of_21 ?_
      obtain ⟨g13, h⟩ := h
      refine a_icmp_ge (tgt := 32) hΓ g13 (inRl (by decide)) dX12_of_22 (by decide) (fun c14 => ?_) (fun c14 => ?_)
      · rw [if_pos c14] at h
        refine a_aload_n hΓ 0 dX12_of_25 rfl rfl ?_
        refine a_iload_n hΓ 1 dX12_of_26 rfl rfl ?_
        refine a_iload_n hΓ 2 dX12_of_27 rfl rfl ?_
        obtain ⟨P15, q16, h⟩ := h
        refine n_callV (c := 102) (av := [aI v1, aI v2]) (st := []) hΓ (ct_wX12_logAt _ _ v1 v2 M10 P15 q16) my_X12_logAt ml_RX12_151 ni_X12_logAt kd_102 rfl lz_102 rfl (Nat.le_trans (by decide) hh) (by decide) (Nat.le_of_ble_eq_true rfl) rfl dX12_of_28 (fun v Z' hq => ?_)
        obtain ⟨r17, M18, rfl, rfl, hq⟩ := hq
        have h := h r17 M18 hq
        dsimp only at h
        exact a_iret hΓ hr dX12_of_31 ⟨_, _, rfl, rfl, h⟩
      · rw [if_neg c14] at h
        refine a_iload_n hΓ 2 dX12_of_32 rfl rfl ?_
        refine a_iconst hΓ dX12_of_33 ?_
        refine a_icmp_ge (tgt := 46) hΓ g13 (inRl (by decide)) dX12_of_34 (by decide) (fun c19 => ?_) (fun c19 => ?_)
        · rw [if_pos c19] at h
          refine a_aload_n hΓ 0 dX12_of_37 rfl rfl ?_
          refine a_iload_n hΓ 1 dX12_of_38 rfl rfl ?_
          refine a_iload_n hΓ 2 dX12_of_39 rfl rfl ?_
          refine a_iconst hΓ dX12_of_40 ?_
          refine a_isub hΓ dX12_of_41 ?_
          obtain ⟨P20, q21, h⟩ := h
          refine n_callV (c := 102) (av := [aI v1, aI (v2 - 2)]) (st := []) hΓ (ct_wX12_readAs _ _ v1 (v2 - 2) M10 P20 q21) my_X12_readAs ml_RX12_157 ni_X12_readAs kd_102 rfl lz_102 rfl (Nat.le_trans (by decide) hh) (by decide) (Nat.le_of_ble_eq_true rfl) rfl dX12_of_42 (fun v Z' hq => ?_)
          obtain ⟨r22, M23, rfl, rfl, hq⟩ := hq
          have h := h r22 M23 hq
          dsimp only at h
          exact a_iret hΓ hr dX12_of_45 ⟨_, _, rfl, rfl, h⟩
        · rw [if_neg c19] at h
          refine a_iload_n hΓ 2 dX12_of_46 rfl rfl ?_
          refine a_bipush hΓ dX12_of_47 (by decide) ?_
          refine a_icmp_ne (tgt := 62) hΓ g13 (inRl (by decide)) dX12_of_49 (by decide) (fun c24 => ?_) (fun c24 => ?_)
          · rw [if_pos c24] at h
            refine a_aload_n hΓ 0 dX12_of_52 rfl rfl ?_
            refine a_iload_n hΓ 1 dX12_of_53 rfl rfl ?_
            refine a_bipush hΓ dX12_of_54 (by decide) ?_
            obtain ⟨P25, q26, h⟩ := h
            refine n_callV (c := 102) (av := [aI v1, aI 7]) (st := []) hΓ (ct_wX12_logAt _ _ v1 7 M10 P25 q26) my_X12_logAt ml_RX12_151 ni_X12_logAt kd_102 rfl lz_102 rfl (Nat.le_trans (by decide) hh) (by decide) (Nat.le_of_ble_eq_true rfl) rfl dX12_of_56 (fun v Z' hq => ?_)
            obtain ⟨r27, M28, rfl, rfl, hq⟩ := hq
            have h := h r27 M28 hq
            dsimp only at h
            refine a_goto (tgt := 68) hΓ dX12_of_59 (by decide) ?_
            exact a_iret hΓ hr dX12_of_68 ⟨_, _, rfl, rfl, h⟩
          · rw [if_neg c24] at h
            refine a_aload_n hΓ 0 dX12_of_62 rfl rfl ?_
            refine a_iload_n hΓ 1 dX12_of_63 rfl rfl ?_
            refine a_iload_n hΓ 2 dX12_of_64 rfl rfl ?_
            obtain ⟨P29, q30, h⟩ := h
            refine n_callV (c := 102) (av := [aI v1, aI v2]) (st := []) hΓ (ct_wX12_logAt _ _ v1 v2 M10 P29 q30) my_X12_logAt ml_RX12_151 ni_X12_logAt kd_102 rfl lz_102 rfl (Nat.le_trans (by decide) hh) (by decide) (Nat.le_of_ble_eq_true rfl) rfl dX12_of_65 (fun v Z' hq => ?_)
            obtain ⟨r31, M32, rfl, rfl, hq⟩ := hq
            have h := h r31 M32 hq
            dsimp only at h
            exact a_iret hΓ hr dX12_of_68 ⟨_, _, rfl, rfl, h⟩
theorem ct_wX12_of (l : Launch) (g : Gp) (v1 : Int) (v2 : Int) (M : Mm) (Q : Int → Mm → Prop) (h : wX12_of v1 v2 M Q) : Ct l g yX12_of cX12_of 3 (some .int) 8 0 0 [aR 102, aI v1, aI v2] (NC, RF, M) (QI Q) :=
  ct_of (by decide) (Nat.le_of_ble_eq_true rfl) (fun Γ hg hl hr _ hΓ => by subst hg; subst hl; exact s_wX12_of hΓ (by decide) hr v1 v2 M h)
def wX12_leave (v1 : Int) (v2 : Int) (M : Mm) (Q : Int → Mm → Prop) : Prop :=
    Bd (wX12_in v2 0 1 M) (fun r3 M4 =>
    (inR r3) ∧
    (if r3 = 0 then
      Bd (wX12_ends (-1) M4) (fun r9 M10 =>
      Q r9 M10)
    else
      Bd (wX12_isLog v1 M4) (fun r13 M14 =>
      (inR r13) ∧
      (if r13 = 0 then
        Bd (wX12_ends (-2) M14) (fun r19 M20 =>
        Q r19 M20)
      else
        (0 ≤ ((503 + (9 * v1)) + 7) ∧ ((503 + (9 * v1)) + 7) < 730) ∧
        Bd (wX12_ends 0 (up M14 103 ((503 + (9 * v1)) + 7) v2)) (fun r24 M25 =>
        Q r24 M25)))))
set_option maxHeartbeats 4000000 in
theorem s_wX12_leave {Γ : Cx} {h : Nat} (hΓ : Ok Γ cX12_leave RX12 3 h 0 0) (hh : 3 ≤ h) (hr : (cxm Γ).sig.returnType = (some .int)) {Q : Int → Mm → Prop} (v1 : Int) (v2 : Int) (M : Mm) (h : wX12_leave v1 v2 M Q) : Wa Γ 3 (Kf Γ (QI Q) 0 0) 0 0 0 [(0, aR 102), (1, aI v1), (2, aI v2)] [] (NC, RF, M) := by
  unfold wX12_leave at h
  refine a_iload_n hΓ 2 dX12_leave_0 rfl rfl ?_
  refine a_iconst hΓ dX12_leave_1 ?_
  refine a_iconst hΓ dX12_leave_2 ?_
  obtain ⟨P1, q2, h⟩ := h
  refine n_callS (av := [aI v2, aI 0, aI 1]) (st := []) hΓ (ct_wX12_in _ _ v2 0 1 M P1 q2) my_X12_in ml_RX12_3 rfl (Nat.le_trans (by decide) hh) (by decide) (Nat.le_of_ble_eq_true rfl) rfl dX12_leave_3 (fun v Z' hq => ?_)
  obtain ⟨r3, M4, rfl, rfl, hq⟩ := hq
  have h := h r3 M4 hq
  dsimp only at h
  obtain ⟨g5, h⟩ := h
  refine a_if_ne (tgt := 15) hΓ g5 dX12_leave_6 (by decide) (fun c6 => ?_) (fun c6 => ?_)
  · rw [if_pos c6] at h
    refine a_aload_n hΓ 0 dX12_leave_9 rfl rfl ?_
    refine a_iconst hΓ dX12_leave_10 ?_
    obtain ⟨P7, q8, h⟩ := h
    refine n_callV (c := 102) (av := [aI (-1)]) (st := []) hΓ (ct_wX12_ends _ _ (-1) M4 P7 q8) my_X12_ends ml_RX12_106 ni_X12_ends kd_102 rfl lz_102 rfl (Nat.le_trans (by decide) hh) (by decide) (Nat.le_of_ble_eq_true rfl) rfl dX12_leave_11 (fun v Z' hq => ?_)
    obtain ⟨r9, M10, rfl, rfl, hq⟩ := hq
    have h := h r9 M10 hq
    dsimp only at h
    exact a_iret hΓ hr dX12_leave_14 ⟨_, _, rfl, rfl, h⟩
  · rw [if_neg c6] at h
    refine a_aload_n hΓ 0 dX12_leave_15 rfl rfl ?_
    refine a_iload_n hΓ 1 dX12_leave_16 rfl rfl ?_
    obtain ⟨P11, q12, h⟩ := h
    refine n_callV (c := 102) (av := [aI v1]) (st := []) hΓ (ct_wX12_isLog _ _ v1 M4 P11 q12) my_X12_isLog ml_RX12_154 ni_X12_isLog kd_102 rfl lz_102 rfl (Nat.le_trans (by decide) hh) (by decide) (Nat.le_of_ble_eq_true rfl) rfl dX12_leave_17 (fun v Z' hq => ?_)
    obtain ⟨r13, M14, rfl, rfl, hq⟩ := hq
    have h := h r13 M14 hq
    dsimp only at h
    obtain ⟨g15, h⟩ := h
    refine a_if_ne (tgt := 30) hΓ g15 dX12_leave_20 (by decide) (fun c16 => ?_) (fun c16 => ?_)
    · rw [if_pos c16] at h
      refine a_aload_n hΓ 0 dX12_leave_23 rfl rfl ?_
      refine a_bipush hΓ dX12_leave_24 (by decide) ?_
      obtain ⟨P17, q18, h⟩ := h
      refine n_callV (c := 102) (av := [aI (-2)]) (st := []) hΓ (ct_wX12_ends _ _ (-2) M14 P17 q18) my_X12_ends ml_RX12_106 ni_X12_ends kd_102 rfl lz_102 rfl (Nat.le_trans (by decide) hh) (by decide) (Nat.le_of_ble_eq_true rfl) rfl dX12_leave_26 (fun v Z' hq => ?_)
      obtain ⟨r19, M20, rfl, rfl, hq⟩ := hq
      have h := h r19 M20 hq
      dsimp only at h
      exact a_iret hΓ hr dX12_leave_29 ⟨_, _, rfl, rfl, h⟩
    · rw [if_neg c16] at h
      refine a_aload_n hΓ 0 dX12_leave_30 rfl rfl ?_
      refine n_getR hΓ fl_RX12_17 cl_12 kd_102 lz_102 dX12_leave_31 ft_12_1 rf_102_1 ?_
      refine a_sipush hΓ dX12_leave_34 (by decide) ?_
      refine a_bipush hΓ dX12_leave_37 (by decide) ?_
      refine a_iload_n hΓ 1 dX12_leave_39 rfl rfl ?_
      refine a_imul hΓ dX12_leave_40 ?_
      refine a_iadd hΓ dX12_leave_41 ?_
      refine a_bipush hΓ dX12_leave_42 (by decide) ?_
      refine a_iadd hΓ dX12_leave_44 ?_
      refine a_iload_n hΓ 2 dX12_leave_45 rfl rfl ?_
      obtain ⟨g21, h⟩ := h
      refine a_iast hΓ dX12_leave_46 kd_103 lz_103 g21 ?_
      refine a_aload_n hΓ 0 dX12_leave_47 rfl rfl ?_
      refine a_iconst hΓ dX12_leave_48 ?_
      obtain ⟨P22, q23, h⟩ := h
      refine n_callV (c := 102) (av := [aI 0]) (st := []) hΓ (ct_wX12_ends _ _ 0 (up M14 103 ((503 + (9 * v1)) + 7) v2) P22 q23) my_X12_ends ml_RX12_106 ni_X12_ends kd_102 rfl lz_102 rfl (Nat.le_trans (by decide) hh) (by decide) (Nat.le_of_ble_eq_true rfl) rfl dX12_leave_49 (fun v Z' hq => ?_)
      obtain ⟨r24, M25, rfl, rfl, hq⟩ := hq
      have h := h r24 M25 hq
      dsimp only at h
      exact a_iret hΓ hr dX12_leave_52 ⟨_, _, rfl, rfl, h⟩
theorem ct_wX12_leave (l : Launch) (g : Gp) (v1 : Int) (v2 : Int) (M : Mm) (Q : Int → Mm → Prop) (h : wX12_leave v1 v2 M Q) : Ct l g yX12_leave cX12_leave 3 (some .int) 3 0 0 [aR 102, aI v1, aI v2] (NC, RF, M) (QI Q) :=
  ct_of (by decide) (Nat.le_of_ble_eq_true rfl) (fun Γ hg hl hr _ hΓ => by subst hg; subst hl; exact s_wX12_leave hΓ (by decide) hr v1 v2 M h)
def wX12_counting_5 (Q : Int → Mm → Prop) (v1 : Int) (v2 : Int) : Nat → Int → Int → Mm → Prop
  | 0, _, _, _ => False
  | f + 1, v3, v4, M => Bd (wX12_many 3 M) (fun r3 M4 =>
    (inR v4) ∧
    (inR r3) ∧
    (if v4 < r3 then
      Bd (wX12_logAt v4 0 M4) (fun r10 M11 =>
      (inR r10) ∧
      (inR v1) ∧
      (if r10 = v1 then
        Bd (wX12_logAt v4 5 M11) (fun r17 M18 =>
        (inR r17) ∧
        (inR v2) ∧
        (if r17 ≤ v2 then
          Bd (wX12_logAt v4 7 M18) (fun r24 M25 =>
          (inR r24) ∧
          (if r24 = 0 then
            Bd (wX12_readAs v4 0 M25) (fun r30 M31 =>
            (inR r30) ∧
            (if r30 = (-1) then
              (wX12_counting_5 Q v1 v2 f) v3 (v4 + 1) M31
            else
              (wX12_counting_5 Q v1 v2 f) (lorI v3 (shlI 1 v4)) (v4 + 1) M31))
          else
            (wX12_counting_5 Q v1 v2 f) v3 (v4 + 1) M25))
        else
          (wX12_counting_5 Q v1 v2 f) v3 (v4 + 1) M18))
      else
        (wX12_counting_5 Q v1 v2 f) v3 (v4 + 1) M11))
    else
      Q v3 M4))
set_option maxHeartbeats 4000000 in
theorem s_wX12_counting_5 {Γ : Cx} {h : Nat} (hΓ : Ok Γ cX12_counting RX12 5 h 0 0) (hh : 8 ≤ h) (hr : (cxm Γ).sig.returnType = (some .int)) {Q : Int → Mm → Prop} {v1 v2 : Int}   : ∀ (f : Nat) (v3 : Int) (v4 : Int) (M : Mm), wX12_counting_5 Q v1 v2 f v3 v4 M → Wa Γ 5 (Kf Γ (QI Q) 0 0) 0 0 5 [(0, aR 102), (1, aI v1), (2, aI v2), (3, aI v3), (4, aI v4)] [] (NC, RF, M) := by
  intro f
  induction f with
  | zero => intro v3 v4 M h; exact h.elim
  | succ f ih =>
    intro v3 v4 M h
    unfold wX12_counting_5 at h
    refine a_iload hΓ 4 dX12_counting_5 rfl ?_
    refine a_aload_n hΓ 0 dX12_counting_7 rfl rfl ?_
    refine a_iconst hΓ dX12_counting_8 ?_
    obtain ⟨P1, q2, h⟩ := h
    refine n_callV (c := 102) (av := [aI 3]) (st := [aI v4]) hΓ (ct_wX12_many _ _ 3 M P1 q2) my_X12_many ml_RX12_102 ni_X12_many kd_102 rfl lz_102 rfl (Nat.le_trans (by decide) hh) (by decide) (Nat.le_of_ble_eq_true rfl) rfl dX12_counting_9 (fun v Z' hq => ?_)
    obtain ⟨r3, M4, rfl, rfl, hq⟩ := hq
    have h := h r3 M4 hq
    dsimp only at h
    obtain ⟨g5, h⟩ := h
    obtain ⟨g6, h⟩ := h
    refine a_icmp_ge (tgt := 72) hΓ g5 g6 dX12_counting_12 (by decide) (fun c7 => ?_) (fun c7 => ?_)
    · rw [if_pos c7] at h
      refine a_aload_n hΓ 0 dX12_counting_15 rfl rfl ?_
      refine a_iload hΓ 4 dX12_counting_16 rfl ?_
      refine a_iconst hΓ dX12_counting_18 ?_
      obtain ⟨P8, q9, h⟩ := h
      refine n_callV (c := 102) (av := [aI v4, aI 0]) (st := []) hΓ (ct_wX12_logAt _ _ v4 0 M4 P8 q9) my_X12_logAt ml_RX12_151 ni_X12_logAt kd_102 rfl lz_102 rfl (Nat.le_trans (by decide) hh) (by decide) (Nat.le_of_ble_eq_true rfl) rfl dX12_counting_19 (fun v Z' hq => ?_)
      obtain ⟨r10, M11, rfl, rfl, hq⟩ := hq
      have h := h r10 M11 hq
      dsimp only at h
      refine a_iload_n hΓ 1 dX12_counting_22 rfl rfl ?_
      obtain ⟨g12, h⟩ := h
      obtain ⟨g13, h⟩ := h
      refine a_icmp_ne (tgt := 66) hΓ g12 g13 dX12_counting_23 (by decide) (fun c14 => ?_) (fun c14 => ?_)
      · rw [if_pos c14] at h
        refine a_aload_n hΓ 0 dX12_counting_26 rfl rfl ?_
        refine a_iload hΓ 4 dX12_counting_27 rfl ?_
        refine a_iconst hΓ dX12_counting_29 ?_
        obtain ⟨P15, q16, h⟩ := h
        refine n_callV (c := 102) (av := [aI v4, aI 5]) (st := []) hΓ (ct_wX12_logAt _ _ v4 5 M11 P15 q16) my_X12_logAt ml_RX12_151 ni_X12_logAt kd_102 rfl lz_102 rfl (Nat.le_trans (by decide) hh) (by decide) (Nat.le_of_ble_eq_true rfl) rfl dX12_counting_30 (fun v Z' hq => ?_)
        obtain ⟨r17, M18, rfl, rfl, hq⟩ := hq
        have h := h r17 M18 hq
        dsimp only at h
        refine a_iload_n hΓ 2 dX12_counting_33 rfl rfl ?_
        obtain ⟨g19, h⟩ := h
        obtain ⟨g20, h⟩ := h
        refine a_icmp_gt (tgt := 66) hΓ g19 g20 dX12_counting_34 (by decide) (fun c21 => ?_) (fun c21 => ?_)
        · rw [if_pos c21] at h
          refine a_aload_n hΓ 0 dX12_counting_37 rfl rfl ?_
          refine a_iload hΓ 4 dX12_counting_38 rfl ?_
          refine a_bipush hΓ dX12_counting_40 (by decide) ?_
          obtain ⟨P22, q23, h⟩ := h
          refine n_callV (c := 102) (av := [aI v4, aI 7]) (st := []) hΓ (ct_wX12_logAt _ _ v4 7 M18 P22 q23) my_X12_logAt ml_RX12_151 ni_X12_logAt kd_102 rfl lz_102 rfl (Nat.le_trans (by decide) hh) (by decide) (Nat.le_of_ble_eq_true rfl) rfl dX12_counting_42 (fun v Z' hq => ?_)
          obtain ⟨r24, M25, rfl, rfl, hq⟩ := hq
          have h := h r24 M25 hq
          dsimp only at h
          obtain ⟨g26, h⟩ := h
          refine a_if_ne (tgt := 66) hΓ g26 dX12_counting_45 (by decide) (fun c27 => ?_) (fun c27 => ?_)
          · rw [if_pos c27] at h
            refine a_aload_n hΓ 0 dX12_counting_48 rfl rfl ?_
            refine a_iload hΓ 4 dX12_counting_49 rfl ?_
            refine a_iconst hΓ dX12_counting_51 ?_
            obtain ⟨P28, q29, h⟩ := h
            refine n_callV (c := 102) (av := [aI v4, aI 0]) (st := []) hΓ (ct_wX12_readAs _ _ v4 0 M25 P28 q29) my_X12_readAs ml_RX12_157 ni_X12_readAs kd_102 rfl lz_102 rfl (Nat.le_trans (by decide) hh) (by decide) (Nat.le_of_ble_eq_true rfl) rfl dX12_counting_52 (fun v Z' hq => ?_)
            obtain ⟨r30, M31, rfl, rfl, hq⟩ := hq
            have h := h r30 M31 hq
            dsimp only at h
            refine a_iconst hΓ dX12_counting_55 ?_
            obtain ⟨g32, h⟩ := h
            refine a_icmp_eq (tgt := 66) hΓ g32 (inRl (by decide)) dX12_counting_56 (by decide) (fun c33 => ?_) (fun c33 => ?_)
            · rw [if_pos c33] at h
              refine a_iinc (ls' := [(4, aI (v4 + 1)), (0, aR 102), (1, aI v1), (2, aI v2), (3, aI v3)]) hΓ 4 dX12_counting_66 rfl (by decide) rfl ?_
              refine a_goto (tgt := 5) hΓ dX12_counting_69 (by decide) ?_
              refine a_sub (ls' := [(0, aR 102), (1, aI v1), (2, aI v2), (3, aI v3), (4, aI (v4 + 1))]) [1, 2, 3, 4, 0] rfl ?_
              exact ih v3 (v4 + 1) M31 h
            · rw [if_neg c33] at h
              refine a_iload_n hΓ 3 dX12_counting_59 rfl rfl ?_
              refine a_iconst hΓ dX12_counting_60 ?_
              refine a_iload hΓ 4 dX12_counting_61 rfl ?_
              refine a_ishl hΓ dX12_counting_63 ?_
              refine a_ior hΓ dX12_counting_64 ?_
              refine a_istore_n (ls' := [(3, aI (lorI v3 (shlI 1 v4))), (0, aR 102), (1, aI v1), (2, aI v2), (4, aI v4)]) hΓ dX12_counting_65 rfl (by decide) rfl ?_
              refine a_iinc (ls' := [(4, aI (v4 + 1)), (3, aI (lorI v3 (shlI 1 v4))), (0, aR 102), (1, aI v1), (2, aI v2)]) hΓ 4 dX12_counting_66 rfl (by decide) rfl ?_
              refine a_goto (tgt := 5) hΓ dX12_counting_69 (by decide) ?_
              refine a_sub (ls' := [(0, aR 102), (1, aI v1), (2, aI v2), (3, aI (lorI v3 (shlI 1 v4))), (4, aI (v4 + 1))]) [2, 3, 4, 1, 0] rfl ?_
              exact ih (lorI v3 (shlI 1 v4)) (v4 + 1) M31 h
          · rw [if_neg c27] at h
            refine a_iinc (ls' := [(4, aI (v4 + 1)), (0, aR 102), (1, aI v1), (2, aI v2), (3, aI v3)]) hΓ 4 dX12_counting_66 rfl (by decide) rfl ?_
            refine a_goto (tgt := 5) hΓ dX12_counting_69 (by decide) ?_
            refine a_sub (ls' := [(0, aR 102), (1, aI v1), (2, aI v2), (3, aI v3), (4, aI (v4 + 1))]) [1, 2, 3, 4, 0] rfl ?_
            exact ih v3 (v4 + 1) M25 h
        · rw [if_neg c21] at h
          refine a_iinc (ls' := [(4, aI (v4 + 1)), (0, aR 102), (1, aI v1), (2, aI v2), (3, aI v3)]) hΓ 4 dX12_counting_66 rfl (by decide) rfl ?_
          refine a_goto (tgt := 5) hΓ dX12_counting_69 (by decide) ?_
          refine a_sub (ls' := [(0, aR 102), (1, aI v1), (2, aI v2), (3, aI v3), (4, aI (v4 + 1))]) [1, 2, 3, 4, 0] rfl ?_
          exact ih v3 (v4 + 1) M18 h
      · rw [if_neg c14] at h
        refine a_iinc (ls' := [(4, aI (v4 + 1)), (0, aR 102), (1, aI v1), (2, aI v2), (3, aI v3)]) hΓ 4 dX12_counting_66 rfl (by decide) rfl ?_
        refine a_goto (tgt := 5) hΓ dX12_counting_69 (by decide) ?_
        refine a_sub (ls' := [(0, aR 102), (1, aI v1), (2, aI v2), (3, aI v3), (4, aI (v4 + 1))]) [1, 2, 3, 4, 0] rfl ?_
        exact ih v3 (v4 + 1) M11 h
    · rw [if_neg c7] at h
      refine a_iload_n hΓ 3 dX12_counting_72 rfl rfl ?_
      exact a_iret hΓ hr dX12_counting_73 ⟨_, _, rfl, rfl, h⟩
def wX12_counting (v1 : Int) (v2 : Int) (M : Mm) (Q : Int → Mm → Prop) : Prop :=
    ∃ n, wX12_counting_5 Q v1 v2 n 0 0 M
set_option maxHeartbeats 4000000 in
theorem s_wX12_counting {Γ : Cx} {h : Nat} (hΓ : Ok Γ cX12_counting RX12 5 h 0 0) (hh : 8 ≤ h) (hr : (cxm Γ).sig.returnType = (some .int)) {Q : Int → Mm → Prop} (v1 : Int) (v2 : Int) (M : Mm) (h : wX12_counting v1 v2 M Q) : Wa Γ 5 (Kf Γ (QI Q) 0 0) 0 0 0 [(0, aR 102), (1, aI v1), (2, aI v2)] [] (NC, RF, M) := by
  unfold wX12_counting at h
  refine a_iconst hΓ dX12_counting_0 ?_
  refine a_istore_n (ls' := [(3, aI 0), (0, aR 102), (1, aI v1), (2, aI v2)]) hΓ dX12_counting_1 rfl (by decide) rfl ?_
  refine a_iconst hΓ dX12_counting_2 ?_
  refine a_istore (ls' := [(4, aI 0), (3, aI 0), (0, aR 102), (1, aI v1), (2, aI v2)]) hΓ dX12_counting_3 (by decide) rfl ?_
  refine a_sub (ls' := [(0, aR 102), (1, aI v1), (2, aI v2), (3, aI 0), (4, aI 0)]) [2, 3, 4, 1, 0] rfl ?_
  obtain ⟨f1, h⟩ := h
  exact s_wX12_counting_5 hΓ (Nat.le_trans (by decide) hh) hr  f1 0 0 M h
theorem ct_wX12_counting (l : Launch) (g : Gp) (v1 : Int) (v2 : Int) (M : Mm) (Q : Int → Mm → Prop) (h : wX12_counting v1 v2 M Q) : Ct l g yX12_counting cX12_counting 5 (some .int) 8 0 0 [aR 102, aI v1, aI v2] (NC, RF, M) (QI Q) :=
  ct_of (by decide) (Nat.le_of_ble_eq_true rfl) (fun Γ hg hl hr _ hΓ => by subst hg; subst hl; exact s_wX12_counting hΓ (by decide) hr v1 v2 M h)
def wX12_alone_104 (Q : Mm → Prop) (k34 : Int → Mm → Prop) (v2 : Int) (v3 : Int) (v5 : Int) (v7 : Int) (s0 : Int) (M : Mm) : Prop :=
    (inR v7) ∧
    (inR (M 102 9)) ∧
    (if v7 < (M 102 9) then
      k34 (v5 + 1) (up (up M 102 8 s0) 102 9 v7)
    else
      k34 (v5 + 1) (up (up M 102 8 s0) 102 9 (M 102 9)))
set_option maxHeartbeats 4000000 in
theorem s_wX12_alone_104 {Γ : Cx} {h : Nat} (hΓ : Ok Γ cX12_alone RX12 8 h 0 0) (hh : 8 ≤ h) (hr : (cxm Γ).sig.returnType = none) {Q : Mm → Prop} {v2 v3 v5 v7 s0 : Int}  {k34 : Int → Mm → Prop} (hk34 : ∀ (v5 : Int) (M : Mm), k34 v5 M → Wa Γ 8 (Kf Γ (QV Q) 0 0) 0 0 34 [(0, aR 102), (2, aI v2), (3, aI v3), (5, aI v5)] [] (NC, RF, M)) (M : Mm) (h : wX12_alone_104 Q k34 v2 v3 v5 v7 s0 M) : Wa Γ 8 (Kf Γ (QV Q) 0 0) 0 0 104 [(0, aR 102), (2, aI v2), (3, aI v3), (5, aI v5), (7, aI v7)] [aI s0, aR 102] (NC, RF, M) := by
  unfold wX12_alone_104 at h
  refine n_putI (j := 8) hΓ fl_RX12_160 cl_12 nf_12_8 kd_102 lz_102 dX12_alone_104 (Or.inl ft_12_8) rfl ?_
  refine a_aload_n hΓ 0 dX12_alone_107 rfl rfl ?_
  refine a_iload hΓ 4 dX12_alone_108 rfl ?_
  refine a_aload_n hΓ 0 dX12_alone_110 rfl rfl ?_
  refine n_getI (x := (M 102 9)) hΓ fl_RX12_163 cl_12 kd_102 lz_102 dX12_alone_111 (Or.inl ft_12_9) rfl ?_
  obtain ⟨g1, h⟩ := h
  obtain ⟨g2, h⟩ := h
  refine a_icmp_ge (tgt := 122) hΓ g1 g2 dX12_alone_114 (by decide) (fun c3 => ?_) (fun c3 => ?_)
  · rw [if_pos c3] at h
    refine a_iload hΓ 4 dX12_alone_117 rfl ?_
    refine a_goto (tgt := 126) hΓ dX12_alone_119 (by decide) ?_
    refine n_putI (j := 9) hΓ fl_RX12_163 cl_12 nf_12_9 kd_102 lz_102 dX12_alone_126 (Or.inl ft_12_9) rfl ?_
    refine a_iinc (ls' := [(5, aI (v5 + 1)), (0, aR 102), (2, aI v2), (3, aI v3), (7, aI v7)]) hΓ 3 dX12_alone_129 rfl (by decide) rfl ?_
    refine a_goto (tgt := 34) hΓ dX12_alone_132 (by decide) ?_
    refine a_sub (ls' := [(0, aR 102), (2, aI v2), (3, aI v3), (5, aI (v5 + 1))]) [1, 2, 3, 0] rfl ?_
    exact hk34 (v5 + 1) (up (up M 102 8 s0) 102 9 v7) h
  · rw [if_neg c3] at h
    refine a_aload_n hΓ 0 dX12_alone_122 rfl rfl ?_
    refine n_getI (x := (M 102 9)) hΓ fl_RX12_163 cl_12 kd_102 lz_102 dX12_alone_123 (Or.inl ft_12_9) rfl ?_
    refine n_putI (j := 9) hΓ fl_RX12_163 cl_12 nf_12_9 kd_102 lz_102 dX12_alone_126 (Or.inl ft_12_9) rfl ?_
    refine a_iinc (ls' := [(5, aI (v5 + 1)), (0, aR 102), (2, aI v2), (3, aI v3), (7, aI v7)]) hΓ 3 dX12_alone_129 rfl (by decide) rfl ?_
    refine a_goto (tgt := 34) hΓ dX12_alone_132 (by decide) ?_
    refine a_sub (ls' := [(0, aR 102), (2, aI v2), (3, aI v3), (5, aI (v5 + 1))]) [1, 2, 3, 0] rfl ?_
    exact hk34 (v5 + 1) (up (up M 102 8 s0) 102 9 (M 102 9)) h
def wX12_alone_34 (Q : Mm → Prop) (v2 : Int) (v3 : Int) : Nat → Int → Mm → Prop
  | 0, _, _ => False
  | f + 1, v5, M => Bd (wX12_many 3 M) (fun r3 M4 =>
    (inR v5) ∧
    (inR r3) ∧
    (if v5 < r3 then
      (if (landI (shrI v3 v5) 1) = 0 then
        (wX12_alone_34 Q v2 v3 f) (v5 + 1) M4
      else
        Bd (wX12_logAt v5 1 M4) (fun r11 M12 =>
        (inR r11) ∧
        (inR v2) ∧
        (if r11 = v2 then
          Bd (wX12_readAs v5 0 M12) (fun r18 M19 =>
          Bd (wX12_readAs v5 1 M19) (fun r22 M23 =>
          (inR r18) ∧
          (inR (M23 102 8)) ∧
          (if r18 ≤ (M23 102 8) then
            wX12_alone_104 Q (wX12_alone_34 Q v2 v3 f) v2 v3 v5 r22 (M23 102 8) M23
          else
            wX12_alone_104 Q (wX12_alone_34 Q v2 v3 f) v2 v3 v5 r22 r18 M23)))
        else
          (wX12_alone_34 Q v2 v3 f) (v5 + 1) M12)))
    else
      Q M4))
set_option maxHeartbeats 4000000 in
theorem s_wX12_alone_34 {Γ : Cx} {h : Nat} (hΓ : Ok Γ cX12_alone RX12 8 h 0 0) (hh : 8 ≤ h) (hr : (cxm Γ).sig.returnType = none) {Q : Mm → Prop} {v2 v3 : Int}   : ∀ (f : Nat) (v5 : Int) (M : Mm), wX12_alone_34 Q v2 v3 f v5 M → Wa Γ 8 (Kf Γ (QV Q) 0 0) 0 0 34 [(0, aR 102), (2, aI v2), (3, aI v3), (5, aI v5)] [] (NC, RF, M) := by
  intro f
  induction f with
  | zero => intro v5 M h; exact h.elim
  | succ f ih =>
    intro v5 M h
    unfold wX12_alone_34 at h
    refine a_iload hΓ 3 dX12_alone_34 rfl ?_
    refine a_aload_n hΓ 0 dX12_alone_36 rfl rfl ?_
    refine a_iconst hΓ dX12_alone_37 ?_
    obtain ⟨P1, q2, h⟩ := h
    refine n_callV (c := 102) (av := [aI 3]) (st := [aI v5]) hΓ (ct_wX12_many _ _ 3 M P1 q2) my_X12_many ml_RX12_102 ni_X12_many kd_102 rfl lz_102 rfl (Nat.le_trans (by decide) hh) (by decide) (Nat.le_of_ble_eq_true rfl) rfl dX12_alone_38 (fun v Z' hq => ?_)
    obtain ⟨r3, M4, rfl, rfl, hq⟩ := hq
    have h := h r3 M4 hq
    dsimp only at h
    obtain ⟨g5, h⟩ := h
    obtain ⟨g6, h⟩ := h
    refine a_icmp_ge (tgt := 135) hΓ g5 g6 dX12_alone_41 (by decide) (fun c7 => ?_) (fun c7 => ?_)
    · rw [if_pos c7] at h
      refine a_iload_n hΓ 2 dX12_alone_44 rfl rfl ?_
      refine a_iload hΓ 3 dX12_alone_45 rfl ?_
      refine a_ishr hΓ dX12_alone_47 ?_
      refine a_iconst hΓ dX12_alone_48 ?_
      refine a_iand hΓ dX12_alone_49 ?_
      refine a_if_eq (tgt := 129) hΓ (inR_land _ _) dX12_alone_50 (by decide) (fun c8 => ?_) (fun c8 => ?_)
      · rw [if_pos c8] at h
        refine a_iinc (ls' := [(5, aI (v5 + 1)), (0, aR 102), (2, aI v2), (3, aI v3)]) hΓ 3 dX12_alone_129 rfl (by decide) rfl ?_
        refine a_goto (tgt := 34) hΓ dX12_alone_132 (by decide) ?_
        refine a_sub (ls' := [(0, aR 102), (2, aI v2), (3, aI v3), (5, aI (v5 + 1))]) [1, 2, 3, 0] rfl ?_
        exact ih (v5 + 1) M4 h
      · rw [if_neg c8] at h
        refine a_aload_n hΓ 0 dX12_alone_53 rfl rfl ?_
        refine a_iload hΓ 3 dX12_alone_54 rfl ?_
        refine a_iconst hΓ dX12_alone_56 ?_
        obtain ⟨P9, q10, h⟩ := h
        refine n_callV (c := 102) (av := [aI v5, aI 1]) (st := []) hΓ (ct_wX12_logAt _ _ v5 1 M4 P9 q10) my_X12_logAt ml_RX12_151 ni_X12_logAt kd_102 rfl lz_102 rfl (Nat.le_trans (by decide) hh) (by decide) (Nat.le_of_ble_eq_true rfl) rfl dX12_alone_57 (fun v Z' hq => ?_)
        obtain ⟨r11, M12, rfl, rfl, hq⟩ := hq
        have h := h r11 M12 hq
        dsimp only at h
        refine a_iload_n hΓ 1 dX12_alone_60 rfl rfl ?_
        obtain ⟨g13, h⟩ := h
        obtain ⟨g14, h⟩ := h
        refine a_icmp_eq (tgt := 67) hΓ g13 g14 dX12_alone_61 (by decide) (fun c15 => ?_) (fun c15 => ?_)
        · rw [if_pos c15] at h
          refine a_aload_n hΓ 0 dX12_alone_67 rfl rfl ?_
          refine a_iload hΓ 3 dX12_alone_68 rfl ?_
          refine a_iconst hΓ dX12_alone_70 ?_
          obtain ⟨P16, q17, h⟩ := h
          refine n_callV (c := 102) (av := [aI v5, aI 0]) (st := []) hΓ (ct_wX12_readAs _ _ v5 0 M12 P16 q17) my_X12_readAs ml_RX12_157 ni_X12_readAs kd_102 rfl lz_102 rfl (Nat.le_trans (by decide) hh) (by decide) (Nat.le_of_ble_eq_true rfl) rfl dX12_alone_71 (fun v Z' hq => ?_)
          obtain ⟨r18, M19, rfl, rfl, hq⟩ := hq
          have h := h r18 M19 hq
          dsimp only at h
          refine a_istore (ls' := [(6, aI r18), (0, aR 102), (2, aI v2), (3, aI v3), (5, aI v5)]) hΓ dX12_alone_74 (by decide) rfl ?_
          refine a_aload_n hΓ 1 dX12_alone_76 rfl rfl ?_
          refine a_iload hΓ 4 dX12_alone_77 rfl ?_
          refine a_iconst hΓ dX12_alone_79 ?_
          obtain ⟨P20, q21, h⟩ := h
          refine n_callV (c := 102) (av := [aI v5, aI 1]) (st := []) hΓ (ct_wX12_readAs _ _ v5 1 M19 P20 q21) my_X12_readAs ml_RX12_157 ni_X12_readAs kd_102 rfl lz_102 rfl (Nat.le_trans (by decide) hh) (by decide) (Nat.le_of_ble_eq_true rfl) rfl dX12_alone_80 (fun v Z' hq => ?_)
          obtain ⟨r22, M23, rfl, rfl, hq⟩ := hq
          have h := h r22 M23 hq
          dsimp only at h
          refine a_istore (ls' := [(7, aI r22), (6, aI r18), (0, aR 102), (2, aI v2), (3, aI v3), (5, aI v5)]) hΓ dX12_alone_83 (by decide) rfl ?_
          refine a_aload_n hΓ 2 dX12_alone_85 rfl rfl ?_
          refine a_iload hΓ 1 dX12_alone_86 rfl ?_
          refine a_aload_n hΓ 2 dX12_alone_88 rfl rfl ?_
          refine n_getI (x := (M23 102 8)) hΓ fl_RX12_160 cl_12 kd_102 lz_102 dX12_alone_89 (Or.inl ft_12_8) rfl ?_
          obtain ⟨g24, h⟩ := h
          obtain ⟨g25, h⟩ := h
          refine a_icmp_le (tgt := 100) hΓ g24 g25 dX12_alone_92 (by decide) (fun c26 => ?_) (fun c26 => ?_)
          · rw [if_pos c26] at h
            refine a_aload_n hΓ 2 dX12_alone_100 rfl rfl ?_
            refine n_getI (x := (M23 102 8)) hΓ fl_RX12_160 cl_12 kd_102 lz_102 dX12_alone_101 (Or.inl ft_12_8) rfl ?_
            refine a_sub (ls' := [(0, aR 102), (2, aI v2), (3, aI v3), (5, aI v5), (7, aI r22)]) [2, 3, 4, 5, 0] rfl ?_
            exact s_wX12_alone_104 hΓ (Nat.le_trans (by decide) hh) hr ih M23 h
          · rw [if_neg c26] at h
            refine a_iload hΓ 1 dX12_alone_95 rfl ?_
            refine a_goto (tgt := 104) hΓ dX12_alone_97 (by decide) ?_
            refine a_sub (ls' := [(0, aR 102), (2, aI v2), (3, aI v3), (5, aI v5), (7, aI r22)]) [2, 3, 4, 5, 0] rfl ?_
            exact s_wX12_alone_104 hΓ (Nat.le_trans (by decide) hh) hr ih M23 h
        · rw [if_neg c15] at h
          refine a_goto (tgt := 129) hΓ dX12_alone_64 (by decide) ?_
          refine a_iinc (ls' := [(5, aI (v5 + 1)), (0, aR 102), (2, aI v2), (3, aI v3)]) hΓ 3 dX12_alone_129 rfl (by decide) rfl ?_
          refine a_goto (tgt := 34) hΓ dX12_alone_132 (by decide) ?_
          refine a_sub (ls' := [(0, aR 102), (2, aI v2), (3, aI v3), (5, aI (v5 + 1))]) [1, 2, 3, 0] rfl ?_
          exact ih (v5 + 1) M12 h
    · rw [if_neg c7] at h
      exact a_vret hΓ hr dX12_alone_135 ⟨_, rfl, rfl, h⟩
def wX12_alone (v1 : Int) (v2 : Int) (v3 : Int) (M : Mm) (Q : Mm → Prop) : Prop :=
    Bd (wX12_leftOn v1 v2 M) (fun r3 M4 =>
    (inR r3) ∧
    (if r3 = (-1) then
      ∃ n, wX12_alone_34 Q v2 v3 n 0 (up (up M4 102 8 0) 102 9 1000)
    else
      ∃ n, wX12_alone_34 Q v2 v3 n 0 (up (up M4 102 8 0) 102 9 r3)))
set_option maxHeartbeats 4000000 in
theorem s_wX12_alone {Γ : Cx} {h : Nat} (hΓ : Ok Γ cX12_alone RX12 8 h 0 0) (hh : 8 ≤ h) (hr : (cxm Γ).sig.returnType = none) {Q : Mm → Prop} (v1 : Int) (v2 : Int) (v3 : Int) (M : Mm) (h : wX12_alone v1 v2 v3 M Q) : Wa Γ 8 (Kf Γ (QV Q) 0 0) 0 0 0 [(0, aR 102), (1, aI v1), (2, aI v2), (3, aI v3)] [] (NC, RF, M) := by
  unfold wX12_alone at h
  refine a_aload_n hΓ 0 dX12_alone_0 rfl rfl ?_
  refine a_iload_n hΓ 1 dX12_alone_1 rfl rfl ?_
  refine a_iload_n hΓ 2 dX12_alone_2 rfl rfl ?_
  obtain ⟨P1, q2, h⟩ := h
  refine n_callV (c := 102) (av := [aI v1, aI v2]) (st := []) hΓ (ct_wX12_leftOn _ _ v1 v2 M P1 q2) my_X12_leftOn ml_RX12_116 ni_X12_leftOn kd_102 rfl lz_102 rfl (Nat.le_trans (by decide) hh) (by decide) (Nat.le_of_ble_eq_true rfl) rfl dX12_alone_3 (fun v Z' hq => ?_)
  obtain ⟨r3, M4, rfl, rfl, hq⟩ := hq
  have h := h r3 M4 hq
  dsimp only at h
  refine a_istore (ls' := [(4, aI r3), (0, aR 102), (1, aI v1), (2, aI v2), (3, aI v3)]) hΓ dX12_alone_6 (by decide) rfl ?_
  refine a_aload_n hΓ 1 dX12_alone_8 rfl rfl ?_
  refine a_iconst hΓ dX12_alone_9 ?_
  refine n_putI (j := 8) hΓ fl_RX12_160 cl_12 nf_12_8 kd_102 lz_102 dX12_alone_10 (Or.inl ft_12_8) rfl ?_
  refine a_aload_n hΓ 1 dX12_alone_13 rfl rfl ?_
  refine a_iload hΓ 0 dX12_alone_14 rfl ?_
  refine a_iconst hΓ dX12_alone_16 ?_
  obtain ⟨g5, h⟩ := h
  refine a_icmp_ne (tgt := 26) hΓ g5 (inRl (by decide)) dX12_alone_17 (by decide) (fun c6 => ?_) (fun c6 => ?_)
  · rw [if_pos c6] at h
    refine a_sipush hΓ dX12_alone_20 (by decide) ?_
    refine a_goto (tgt := 28) hΓ dX12_alone_23 (by decide) ?_
    refine n_putI (j := 9) hΓ fl_RX12_163 cl_12 nf_12_9 kd_102 lz_102 dX12_alone_28 (Or.inl ft_12_9) rfl ?_
    refine a_iconst hΓ dX12_alone_31 ?_
    refine a_istore (ls' := [(5, aI 0), (4, aI r3), (0, aR 102), (1, aI v1), (2, aI v2), (3, aI v3)]) hΓ dX12_alone_32 (by decide) rfl ?_
    refine a_sub (ls' := [(0, aR 102), (2, aI v2), (3, aI v3), (5, aI 0)]) [2, 4, 5, 0] rfl ?_
    obtain ⟨f7, h⟩ := h
    exact s_wX12_alone_34 hΓ (Nat.le_trans (by decide) hh) hr  f7 0 (up (up M4 102 8 0) 102 9 1000) h
  · rw [if_neg c6] at h
    refine a_iload hΓ 0 dX12_alone_26 rfl ?_
    refine n_putI (j := 9) hΓ fl_RX12_163 cl_12 nf_12_9 kd_102 lz_102 dX12_alone_28 (Or.inl ft_12_9) rfl ?_
    refine a_iconst hΓ dX12_alone_31 ?_
    refine a_istore (ls' := [(5, aI 0), (4, aI r3), (0, aR 102), (1, aI v1), (2, aI v2), (3, aI v3)]) hΓ dX12_alone_32 (by decide) rfl ?_
    refine a_sub (ls' := [(0, aR 102), (2, aI v2), (3, aI v3), (5, aI 0)]) [2, 4, 5, 0] rfl ?_
    obtain ⟨f8, h⟩ := h
    exact s_wX12_alone_34 hΓ (Nat.le_trans (by decide) hh) hr  f8 0 (up (up M4 102 8 0) 102 9 r3) h
theorem ct_wX12_alone (l : Launch) (g : Gp) (v1 : Int) (v2 : Int) (v3 : Int) (M : Mm) (Q : Mm → Prop) (h : wX12_alone v1 v2 v3 M Q) : Ct l g yX12_alone cX12_alone 8 none 8 0 0 [aR 102, aI v1, aI v2, aI v3] (NC, RF, M) (QV Q) :=
  ct_of (by decide) (Nat.le_of_ble_eq_true rfl) (fun Γ hg hl hr _ hΓ => by subst hg; subst hl; exact s_wX12_alone hΓ (by decide) hr v1 v2 v3 M h)
def wX12_meets_17 (Q : Mm → Prop) (v2 : Int) (s0 : Int) (M : Mm) : Prop :=
    (inR v2) ∧
    (inR (M 102 9)) ∧
    (if v2 < (M 102 9) then
      Q (up (up M 102 8 s0) 102 9 v2)
    else
      Q (up (up M 102 8 s0) 102 9 (M 102 9)))
set_option maxHeartbeats 4000000 in
theorem s_wX12_meets_17 {Γ : Cx} {h : Nat} (hΓ : Ok Γ cX12_meets RX12 3 h 0 0) (hh : 1 ≤ h) (hr : (cxm Γ).sig.returnType = none) {Q : Mm → Prop} {v2 s0 : Int}   (M : Mm) (h : wX12_meets_17 Q v2 s0 M) : Wa Γ 3 (Kf Γ (QV Q) 0 0) 0 0 17 [(0, aR 102), (2, aI v2)] [aI s0, aR 102] (NC, RF, M) := by
  unfold wX12_meets_17 at h
  refine n_putI (j := 8) hΓ fl_RX12_160 cl_12 nf_12_8 kd_102 lz_102 dX12_meets_17 (Or.inl ft_12_8) rfl ?_
  refine a_aload_n hΓ 0 dX12_meets_20 rfl rfl ?_
  refine a_iload_n hΓ 1 dX12_meets_21 rfl rfl ?_
  refine a_aload_n hΓ 0 dX12_meets_22 rfl rfl ?_
  refine n_getI (x := (M 102 9)) hΓ fl_RX12_163 cl_12 kd_102 lz_102 dX12_meets_23 (Or.inl ft_12_9) rfl ?_
  obtain ⟨g1, h⟩ := h
  obtain ⟨g2, h⟩ := h
  refine a_icmp_ge (tgt := 33) hΓ g1 g2 dX12_meets_26 (by decide) (fun c3 => ?_) (fun c3 => ?_)
  · rw [if_pos c3] at h
    refine a_iload_n hΓ 1 dX12_meets_29 rfl rfl ?_
    refine a_goto (tgt := 37) hΓ dX12_meets_30 (by decide) ?_
    refine n_putI (j := 9) hΓ fl_RX12_163 cl_12 nf_12_9 kd_102 lz_102 dX12_meets_37 (Or.inl ft_12_9) rfl ?_
    exact a_vret hΓ hr dX12_meets_40 ⟨_, rfl, rfl, h⟩
  · rw [if_neg c3] at h
    refine a_aload_n hΓ 0 dX12_meets_33 rfl rfl ?_
    refine n_getI (x := (M 102 9)) hΓ fl_RX12_163 cl_12 kd_102 lz_102 dX12_meets_34 (Or.inl ft_12_9) rfl ?_
    refine n_putI (j := 9) hΓ fl_RX12_163 cl_12 nf_12_9 kd_102 lz_102 dX12_meets_37 (Or.inl ft_12_9) rfl ?_
    exact a_vret hΓ hr dX12_meets_40 ⟨_, rfl, rfl, h⟩
def wX12_meets (v1 : Int) (v2 : Int) (M : Mm) (Q : Mm → Prop) : Prop :=
    (inR v1) ∧
    (inR (M 102 8)) ∧
    (if v1 ≤ (M 102 8) then
      wX12_meets_17 Q v2 (M 102 8) M
    else
      wX12_meets_17 Q v2 v1 M)
set_option maxHeartbeats 4000000 in
theorem s_wX12_meets {Γ : Cx} {h : Nat} (hΓ : Ok Γ cX12_meets RX12 3 h 0 0) (hh : 1 ≤ h) (hr : (cxm Γ).sig.returnType = none) {Q : Mm → Prop} (v1 : Int) (v2 : Int) (M : Mm) (h : wX12_meets v1 v2 M Q) : Wa Γ 3 (Kf Γ (QV Q) 0 0) 0 0 0 [(0, aR 102), (1, aI v1), (2, aI v2)] [] (NC, RF, M) := by
  unfold wX12_meets at h
  refine a_aload_n hΓ 0 dX12_meets_0 rfl rfl ?_
  refine a_iload_n hΓ 1 dX12_meets_1 rfl rfl ?_
  refine a_aload_n hΓ 0 dX12_meets_2 rfl rfl ?_
  refine n_getI (x := (M 102 8)) hΓ fl_RX12_160 cl_12 kd_102 lz_102 dX12_meets_3 (Or.inl ft_12_8) rfl ?_
  obtain ⟨g1, h⟩ := h
  obtain ⟨g2, h⟩ := h
  refine a_icmp_le (tgt := 13) hΓ g1 g2 dX12_meets_6 (by decide) (fun c3 => ?_) (fun c3 => ?_)
  · rw [if_pos c3] at h
    refine a_aload_n hΓ 0 dX12_meets_13 rfl rfl ?_
    refine n_getI (x := (M 102 8)) hΓ fl_RX12_160 cl_12 kd_102 lz_102 dX12_meets_14 (Or.inl ft_12_8) rfl ?_
    refine a_sub (ls' := [(0, aR 102), (2, aI v2)]) [0, 2] rfl ?_
    exact s_wX12_meets_17 hΓ (Nat.le_trans (by decide) hh) hr  M h
  · rw [if_neg c3] at h
    refine a_iload_n hΓ 1 dX12_meets_9 rfl rfl ?_
    refine a_goto (tgt := 17) hΓ dX12_meets_10 (by decide) ?_
    refine a_sub (ls' := [(0, aR 102), (2, aI v2)]) [0, 2] rfl ?_
    exact s_wX12_meets_17 hΓ (Nat.le_trans (by decide) hh) hr  M h
theorem ct_wX12_meets (l : Launch) (g : Gp) (v1 : Int) (v2 : Int) (M : Mm) (Q : Mm → Prop) (h : wX12_meets v1 v2 M Q) : Ct l g yX12_meets cX12_meets 3 none 1 0 0 [aR 102, aI v1, aI v2] (NC, RF, M) (QV Q) :=
  ct_of (by decide) (Nat.le_of_ble_eq_true rfl) (fun Γ hg hl hr _ hΓ => by subst hg; subst hl; exact s_wX12_meets hΓ (by decide) hr v1 v2 M h)
def wX12_spans_189 (Q : Int → Mm → Prop) (k111 : Int → Mm → Prop) (v1 : Int) (v3 : Int) (M : Mm) : Prop :=
    (0 ≤ v3 ∧ v3 < 120) ∧
    k111 (v3 + (-1)) (up (up M 106 v3 (M 102 8)) 107 v3 (M 102 9))
set_option maxHeartbeats 4000000 in
theorem s_wX12_spans_189 {Γ : Cx} {h : Nat} (hΓ : Ok Γ cX12_spans RX12 4 h 0 0) (hh : 9 ≤ h) (hr : (cxm Γ).sig.returnType = (some .boolean)) {Q : Int → Mm → Prop} {v1 v3 : Int}  {k111 : Int → Mm → Prop} (hk111 : ∀ (v3 : Int) (M : Mm), k111 v3 M → Wa Γ 4 (Kf Γ (QI Q) 0 0) 0 0 111 [(0, aR 102), (1, aI v1), (3, aI v3)] [] (NC, RF, M)) (M : Mm) (h : wX12_spans_189 Q k111 v1 v3 M) : Wa Γ 4 (Kf Γ (QI Q) 0 0) 0 0 189 [(0, aR 102), (1, aI v1), (3, aI v3)] [] (NC, RF, M) := by
  unfold wX12_spans_189 at h
  refine a_aload_n hΓ 0 dX12_spans_189 rfl rfl ?_
  refine n_getR hΓ fl_RX12_28 cl_12 kd_102 lz_102 dX12_spans_190 ft_12_4 rf_102_4 ?_
  refine a_iload_n hΓ 2 dX12_spans_193 rfl rfl ?_
  refine a_aload_n hΓ 0 dX12_spans_194 rfl rfl ?_
  refine n_getI (x := (M 102 8)) hΓ fl_RX12_160 cl_12 kd_102 lz_102 dX12_spans_195 (Or.inl ft_12_8) rfl ?_
  obtain ⟨g1, h⟩ := h
  refine a_iast hΓ dX12_spans_198 kd_106 lz_106 g1 ?_
  refine a_aload_n hΓ 0 dX12_spans_199 rfl rfl ?_
  refine n_getR hΓ fl_RX12_31 cl_12 kd_102 lz_102 dX12_spans_200 ft_12_5 rf_102_5 ?_
  refine a_iload_n hΓ 2 dX12_spans_203 rfl rfl ?_
  refine a_aload_n hΓ 0 dX12_spans_204 rfl rfl ?_
  refine n_getI (x := (M 102 9)) hΓ fl_RX12_163 cl_12 kd_102 lz_102 dX12_spans_205 (Or.inl ft_12_9) rfl ?_
  refine a_iast hΓ dX12_spans_208 kd_107 lz_107 g1 ?_
  refine a_iinc (ls' := [(3, aI (v3 + (-1))), (0, aR 102), (1, aI v1)]) hΓ 2 dX12_spans_209 rfl (by decide) rfl ?_
  refine a_goto (tgt := 111) hΓ dX12_spans_212 (by decide) ?_
  refine a_sub (ls' := [(0, aR 102), (1, aI v1), (3, aI (v3 + (-1)))]) [1, 2, 0] rfl ?_
  exact hk111 (v3 + (-1)) (up (up M 106 v3 (M 102 8)) 107 v3 (M 102 9)) h
def wX12_spans_111 (Q : Int → Mm → Prop) (v1 : Int) : Nat → Int → Mm → Prop
  | 0, _, _ => False
  | f + 1, v3, M => (inR v3) ∧
    (if v3 < 0 then
      Q 1 M
    else
      (0 ≤ v3 ∧ v3 < 120) ∧
      (if v3 < 119 then
        Bd (wX12_leftOn v1 (v3 + 1) (up (up M 102 8 (M 108 v3)) 102 9 (M 109 v3))) (fun r7 M8 =>
        (inR r7) ∧
        (if r7 = (-1) then
          (0 ≤ (v3 + 1) ∧ (v3 + 1) < 120) ∧
          Bd (wX12_byTable v1 v3 1 M8) (fun r14 M15 =>
          Bd (wX12_byTable v1 v3 0 M15) (fun r18 M19 =>
          Bv (wX12_meets ((M8 106 (v3 + 1)) - r14) ((M15 107 (v3 + 1)) - r18) M19) (fun M23 =>
          wX12_spans_189 Q (wX12_spans_111 Q v1 f) v1 v3 M23)))
        else
          wX12_spans_189 Q (wX12_spans_111 Q v1 f) v1 v3 M8))
      else
        wX12_spans_189 Q (wX12_spans_111 Q v1 f) v1 v3 (up (up M 102 8 (M 108 v3)) 102 9 (M 109 v3))))
set_option maxHeartbeats 4000000 in
theorem s_wX12_spans_111 {Γ : Cx} {h : Nat} (hΓ : Ok Γ cX12_spans RX12 4 h 0 0) (hh : 9 ≤ h) (hr : (cxm Γ).sig.returnType = (some .boolean)) {Q : Int → Mm → Prop} {v1 : Int}   : ∀ (f : Nat) (v3 : Int) (M : Mm), wX12_spans_111 Q v1 f v3 M → Wa Γ 4 (Kf Γ (QI Q) 0 0) 0 0 111 [(0, aR 102), (1, aI v1), (3, aI v3)] [] (NC, RF, M) := by
  intro f
  induction f with
  | zero => intro v3 M h; exact h.elim
  | succ f ih =>
    intro v3 M h
    unfold wX12_spans_111 at h
    refine a_iload_n hΓ 2 dX12_spans_111 rfl rfl ?_
    obtain ⟨g1, h⟩ := h
    refine a_if_lt (tgt := 215) hΓ g1 dX12_spans_112 (by decide) (fun c2 => ?_) (fun c2 => ?_)
    · rw [if_pos c2] at h
      refine a_iconst hΓ dX12_spans_215 ?_
      exact a_zret hΓ hr (Or.inr rfl) dX12_spans_216 ⟨_, _, rfl, rfl, h⟩
    · rw [if_neg c2] at h
      refine a_aload_n hΓ 0 dX12_spans_115 rfl rfl ?_
      refine a_aload_n hΓ 0 dX12_spans_116 rfl rfl ?_
      refine n_getR hΓ fl_RX12_34 cl_12 kd_102 lz_102 dX12_spans_117 ft_12_6 rf_102_6 ?_
      refine a_iload_n hΓ 2 dX12_spans_120 rfl rfl ?_
      obtain ⟨g3, h⟩ := h
      refine n_iald (x := (M 108 v3)) hΓ dX12_spans_121 kd_108 lz_108 g3 rfl ?_
      refine n_putI (j := 8) hΓ fl_RX12_160 cl_12 nf_12_8 kd_102 lz_102 dX12_spans_122 (Or.inl ft_12_8) rfl ?_
      refine a_aload_n hΓ 0 dX12_spans_125 rfl rfl ?_
      refine a_aload_n hΓ 0 dX12_spans_126 rfl rfl ?_
      refine n_getR hΓ fl_RX12_37 cl_12 kd_102 lz_102 dX12_spans_127 ft_12_7 rf_102_7 ?_
      refine a_iload_n hΓ 2 dX12_spans_130 rfl rfl ?_
      refine n_iald (x := (M 109 v3)) hΓ dX12_spans_131 kd_109 lz_109 g3 rfl ?_
      refine n_putI (j := 9) hΓ fl_RX12_163 cl_12 nf_12_9 kd_102 lz_102 dX12_spans_132 (Or.inl ft_12_9) rfl ?_
      refine a_iload_n hΓ 2 dX12_spans_135 rfl rfl ?_
      refine a_bipush hΓ dX12_spans_136 (by decide) ?_
      refine a_icmp_ge (tgt := 189) hΓ g1 (inRl (by decide)) dX12_spans_138 (by decide) (fun c4 => ?_) (fun c4 => ?_)
      · rw [if_pos c4] at h
        refine a_aload_n hΓ 0 dX12_spans_141 rfl rfl ?_
        refine a_iload_n hΓ 1 dX12_spans_142 rfl rfl ?_
        refine a_iload_n hΓ 2 dX12_spans_143 rfl rfl ?_
        refine a_iconst hΓ dX12_spans_144 ?_
        refine a_iadd hΓ dX12_spans_145 ?_
        obtain ⟨P5, q6, h⟩ := h
        refine n_callV (c := 102) (av := [aI v1, aI (v3 + 1)]) (st := []) hΓ (ct_wX12_leftOn _ _ v1 (v3 + 1) (up (up M 102 8 (M 108 v3)) 102 9 (M 109 v3)) P5 q6) my_X12_leftOn ml_RX12_116 ni_X12_leftOn kd_102 rfl lz_102 rfl (Nat.le_trans (by decide) hh) (by decide) (Nat.le_of_ble_eq_true rfl) rfl dX12_spans_146 (fun v Z' hq => ?_)
        obtain ⟨r7, M8, rfl, rfl, hq⟩ := hq
        have h := h r7 M8 hq
        dsimp only at h
        refine a_iconst hΓ dX12_spans_149 ?_
        obtain ⟨g9, h⟩ := h
        refine a_icmp_ne (tgt := 189) hΓ g9 (inRl (by decide)) dX12_spans_150 (by decide) (fun c10 => ?_) (fun c10 => ?_)
        · rw [if_pos c10] at h
          refine a_aload_n hΓ 0 dX12_spans_153 rfl rfl ?_
          refine a_aload_n hΓ 0 dX12_spans_154 rfl rfl ?_
          refine n_getR hΓ fl_RX12_28 cl_12 kd_102 lz_102 dX12_spans_155 ft_12_4 rf_102_4 ?_
          refine a_iload_n hΓ 2 dX12_spans_158 rfl rfl ?_
          refine a_iconst hΓ dX12_spans_159 ?_
          refine a_iadd hΓ dX12_spans_160 ?_
          obtain ⟨g11, h⟩ := h
          refine n_iald (x := (M8 106 (v3 + 1))) hΓ dX12_spans_161 kd_106 lz_106 g11 rfl ?_
          refine a_aload_n hΓ 0 dX12_spans_162 rfl rfl ?_
          refine a_iload_n hΓ 1 dX12_spans_163 rfl rfl ?_
          refine a_iload_n hΓ 2 dX12_spans_164 rfl rfl ?_
          refine a_iconst hΓ dX12_spans_165 ?_
          obtain ⟨P12, q13, h⟩ := h
          refine n_callV (c := 102) (av := [aI v1, aI v3, aI 1]) (st := [aI (M8 106 (v3 + 1)), aR 102]) hΓ (ct_wX12_byTable _ _ v1 v3 1 M8 P12 q13) my_X12_byTable ml_RX12_137 ni_X12_byTable kd_102 rfl lz_102 rfl (Nat.le_trans (by decide) hh) (by decide) (Nat.le_of_ble_eq_true rfl) rfl dX12_spans_166 (fun v Z' hq => ?_)
          obtain ⟨r14, M15, rfl, rfl, hq⟩ := hq
          have h := h r14 M15 hq
          dsimp only at h
          refine a_isub hΓ dX12_spans_169 ?_
          refine a_aload_n hΓ 0 dX12_spans_170 rfl rfl ?_
          refine n_getR hΓ fl_RX12_31 cl_12 kd_102 lz_102 dX12_spans_171 ft_12_5 rf_102_5 ?_
          refine a_iload_n hΓ 2 dX12_spans_174 rfl rfl ?_
          refine a_iconst hΓ dX12_spans_175 ?_
          refine a_iadd hΓ dX12_spans_176 ?_
          refine n_iald (x := (M15 107 (v3 + 1))) hΓ dX12_spans_177 kd_107 lz_107 g11 rfl ?_
          refine a_aload_n hΓ 0 dX12_spans_178 rfl rfl ?_
          refine a_iload_n hΓ 1 dX12_spans_179 rfl rfl ?_
          refine a_iload_n hΓ 2 dX12_spans_180 rfl rfl ?_
          refine a_iconst hΓ dX12_spans_181 ?_
          obtain ⟨P16, q17, h⟩ := h
          refine n_callV (c := 102) (av := [aI v1, aI v3, aI 0]) (st := [aI (M15 107 (v3 + 1)), aI ((M8 106 (v3 + 1)) - r14), aR 102]) hΓ (ct_wX12_byTable _ _ v1 v3 0 M15 P16 q17) my_X12_byTable ml_RX12_137 ni_X12_byTable kd_102 rfl lz_102 rfl (Nat.le_trans (by decide) hh) (by decide) (Nat.le_of_ble_eq_true rfl) rfl dX12_spans_182 (fun v Z' hq => ?_)
          obtain ⟨r18, M19, rfl, rfl, hq⟩ := hq
          have h := h r18 M19 hq
          dsimp only at h
          refine a_isub hΓ dX12_spans_185 ?_
          obtain ⟨P20, q21, h⟩ := h
          refine n_callV (c := 102) (av := [aI ((M8 106 (v3 + 1)) - r14), aI ((M15 107 (v3 + 1)) - r18)]) (st := []) hΓ (ct_wX12_meets _ _ ((M8 106 (v3 + 1)) - r14) ((M15 107 (v3 + 1)) - r18) M19 P20 q21) my_X12_meets ml_RX12_170 ni_X12_meets kd_102 rfl lz_102 rfl (Nat.le_trans (by decide) hh) (by decide) (Nat.le_of_ble_eq_true rfl) rfl dX12_spans_186 (fun v Z' hq => ?_)
          obtain ⟨M23, rfl, rfl, hq⟩ := hq
          have h := h M23 hq
          dsimp only at h
          exact s_wX12_spans_189 hΓ (Nat.le_trans (by decide) hh) hr ih M23 h
        · rw [if_neg c10] at h
          exact s_wX12_spans_189 hΓ (Nat.le_trans (by decide) hh) hr ih M8 h
      · rw [if_neg c4] at h
        exact s_wX12_spans_189 hΓ (Nat.le_trans (by decide) hh) hr ih (up (up M 102 8 (M 108 v3)) 102 9 (M 109 v3)) h
def wX12_spans_69 (Q : Int → Mm → Prop) (k2 : Int → Mm → Prop) (v1 : Int) (v2 : Int) (v3 : Int) (M : Mm) : Prop :=
    (inR (M 102 8)) ∧
    (inR (M 102 9)) ∧
    (if (M 102 8) ≤ (M 102 9) then
      (0 ≤ v3 ∧ v3 < 120) ∧
      k2 (v3 + 1) (up (up M 108 v3 (M 102 8)) 109 v3 (M 102 9))
    else
      Q 0 M)
set_option maxHeartbeats 4000000 in
theorem s_wX12_spans_69 {Γ : Cx} {h : Nat} (hΓ : Ok Γ cX12_spans RX12 4 h 0 0) (hh : 9 ≤ h) (hr : (cxm Γ).sig.returnType = (some .boolean)) {Q : Int → Mm → Prop} {v1 v2 v3 : Int}  {k2 : Int → Mm → Prop} (hk2 : ∀ (v3 : Int) (M : Mm), k2 v3 M → Wa Γ 4 (Kf Γ (QI Q) 0 0) 0 0 2 [(0, aR 102), (1, aI v1), (2, aI v2), (3, aI v3)] [] (NC, RF, M)) (M : Mm) (h : wX12_spans_69 Q k2 v1 v2 v3 M) : Wa Γ 4 (Kf Γ (QI Q) 0 0) 0 0 69 [(0, aR 102), (1, aI v1), (2, aI v2), (3, aI v3)] [] (NC, RF, M) := by
  unfold wX12_spans_69 at h
  refine a_aload_n hΓ 0 dX12_spans_69 rfl rfl ?_
  refine n_getI (x := (M 102 8)) hΓ fl_RX12_160 cl_12 kd_102 lz_102 dX12_spans_70 (Or.inl ft_12_8) rfl ?_
  refine a_aload_n hΓ 0 dX12_spans_73 rfl rfl ?_
  refine n_getI (x := (M 102 9)) hΓ fl_RX12_163 cl_12 kd_102 lz_102 dX12_spans_74 (Or.inl ft_12_9) rfl ?_
  obtain ⟨g1, h⟩ := h
  obtain ⟨g2, h⟩ := h
  refine a_icmp_le (tgt := 82) hΓ g1 g2 dX12_spans_77 (by decide) (fun c3 => ?_) (fun c3 => ?_)
  · rw [if_pos c3] at h
    refine a_aload_n hΓ 0 dX12_spans_82 rfl rfl ?_
    refine n_getR hΓ fl_RX12_34 cl_12 kd_102 lz_102 dX12_spans_83 ft_12_6 rf_102_6 ?_
    refine a_iload_n hΓ 3 dX12_spans_86 rfl rfl ?_
    refine a_aload_n hΓ 0 dX12_spans_87 rfl rfl ?_
    refine n_getI (x := (M 102 8)) hΓ fl_RX12_160 cl_12 kd_102 lz_102 dX12_spans_88 (Or.inl ft_12_8) rfl ?_
    obtain ⟨g4, h⟩ := h
    refine a_iast hΓ dX12_spans_91 kd_108 lz_108 g4 ?_
    refine a_aload_n hΓ 0 dX12_spans_92 rfl rfl ?_
    refine n_getR hΓ fl_RX12_37 cl_12 kd_102 lz_102 dX12_spans_93 ft_12_7 rf_102_7 ?_
    refine a_iload_n hΓ 3 dX12_spans_96 rfl rfl ?_
    refine a_aload_n hΓ 0 dX12_spans_97 rfl rfl ?_
    refine n_getI (x := (M 102 9)) hΓ fl_RX12_163 cl_12 kd_102 lz_102 dX12_spans_98 (Or.inl ft_12_9) rfl ?_
    refine a_iast hΓ dX12_spans_101 kd_109 lz_109 g4 ?_
    refine a_iinc (ls' := [(3, aI (v3 + 1)), (0, aR 102), (1, aI v1), (2, aI v2)]) hΓ 3 dX12_spans_102 rfl (by decide) rfl ?_
    refine a_goto (tgt := 2) hΓ dX12_spans_105 (by decide) ?_
    refine a_sub (ls' := [(0, aR 102), (1, aI v1), (2, aI v2), (3, aI (v3 + 1))]) [1, 2, 3, 0] rfl ?_
    exact hk2 (v3 + 1) (up (up M 108 v3 (M 102 8)) 109 v3 (M 102 9)) h
  · rw [if_neg c3] at h
    refine a_iconst hΓ dX12_spans_80 ?_
    exact a_zret hΓ hr (Or.inl rfl) dX12_spans_81 ⟨_, _, rfl, rfl, h⟩
def wX12_spans_2 (Q : Int → Mm → Prop) (v1 : Int) (v2 : Int) : Nat → Int → Mm → Prop
  | 0, _, _ => False
  | f + 1, v3, M => (inR v3) ∧
    (if v3 < 120 then
      Bv (wX12_alone v1 v3 v2 M) (fun M6 =>
      (if v3 ≤ 0 then
        wX12_spans_69 Q (wX12_spans_2 Q v1 v2 f) v1 v2 v3 M6
      else
        Bd (wX12_leftOn v1 v3 M6) (fun r10 M11 =>
        (inR r10) ∧
        (if r10 = (-1) then
          (0 ≤ (v3 - 1) ∧ (v3 - 1) < 120) ∧
          Bd (wX12_byTable v1 (v3 - 1) 0 M11) (fun r17 M18 =>
          Bd (wX12_byTable v1 (v3 - 1) 1 M18) (fun r21 M22 =>
          Bv (wX12_meets ((M11 108 (v3 - 1)) + r17) ((M18 109 (v3 - 1)) + r21) M22) (fun M26 =>
          wX12_spans_69 Q (wX12_spans_2 Q v1 v2 f) v1 v2 v3 M26)))
        else
          wX12_spans_69 Q (wX12_spans_2 Q v1 v2 f) v1 v2 v3 M11))))
    else
      ∃ n, wX12_spans_111 Q v1 n 119 M)
set_option maxHeartbeats 4000000 in
theorem s_wX12_spans_2 {Γ : Cx} {h : Nat} (hΓ : Ok Γ cX12_spans RX12 4 h 0 0) (hh : 9 ≤ h) (hr : (cxm Γ).sig.returnType = (some .boolean)) {Q : Int → Mm → Prop} {v1 v2 : Int}   : ∀ (f : Nat) (v3 : Int) (M : Mm), wX12_spans_2 Q v1 v2 f v3 M → Wa Γ 4 (Kf Γ (QI Q) 0 0) 0 0 2 [(0, aR 102), (1, aI v1), (2, aI v2), (3, aI v3)] [] (NC, RF, M) := by
  intro f
  induction f with
  | zero => intro v3 M h; exact h.elim
  | succ f ih =>
    intro v3 M h
    unfold wX12_spans_2 at h
    refine a_iload_n hΓ 3 dX12_spans_2 rfl rfl ?_
    refine a_bipush hΓ dX12_spans_3 (by decide) ?_
    obtain ⟨g1, h⟩ := h
    refine a_icmp_ge (tgt := 108) hΓ g1 (inRl (by decide)) dX12_spans_5 (by decide) (fun c2 => ?_) (fun c2 => ?_)
    · rw [if_pos c2] at h
      refine a_aload_n hΓ 0 dX12_spans_8 rfl rfl ?_
      refine a_iload_n hΓ 1 dX12_spans_9 rfl rfl ?_
      refine a_iload_n hΓ 3 dX12_spans_10 rfl rfl ?_
      refine a_iload_n hΓ 2 dX12_spans_11 rfl rfl ?_
      obtain ⟨P3, q4, h⟩ := h
      refine n_callV (c := 102) (av := [aI v1, aI v3, aI v2]) (st := []) hΓ (ct_wX12_alone _ _ v1 v3 v2 M P3 q4) my_X12_alone ml_RX12_166 ni_X12_alone kd_102 rfl lz_102 rfl (Nat.le_trans (by decide) hh) (by decide) (Nat.le_of_ble_eq_true rfl) rfl dX12_spans_12 (fun v Z' hq => ?_)
      obtain ⟨M6, rfl, rfl, hq⟩ := hq
      have h := h M6 hq
      dsimp only at h
      refine a_iload_n hΓ 3 dX12_spans_15 rfl rfl ?_
      refine a_if_le (tgt := 69) hΓ g1 dX12_spans_16 (by decide) (fun c7 => ?_) (fun c7 => ?_)
      · rw [if_pos c7] at h
        exact s_wX12_spans_69 hΓ (Nat.le_trans (by decide) hh) hr ih M6 h
      · rw [if_neg c7] at h
        refine a_aload_n hΓ 0 dX12_spans_19 rfl rfl ?_
        refine a_iload_n hΓ 1 dX12_spans_20 rfl rfl ?_
        refine a_iload_n hΓ 3 dX12_spans_21 rfl rfl ?_
        obtain ⟨P8, q9, h⟩ := h
        refine n_callV (c := 102) (av := [aI v1, aI v3]) (st := []) hΓ (ct_wX12_leftOn _ _ v1 v3 M6 P8 q9) my_X12_leftOn ml_RX12_116 ni_X12_leftOn kd_102 rfl lz_102 rfl (Nat.le_trans (by decide) hh) (by decide) (Nat.le_of_ble_eq_true rfl) rfl dX12_spans_22 (fun v Z' hq => ?_)
        obtain ⟨r10, M11, rfl, rfl, hq⟩ := hq
        have h := h r10 M11 hq
        dsimp only at h
        refine a_iconst hΓ dX12_spans_25 ?_
        obtain ⟨g12, h⟩ := h
        refine a_icmp_ne (tgt := 69) hΓ g12 (inRl (by decide)) dX12_spans_26 (by decide) (fun c13 => ?_) (fun c13 => ?_)
        · rw [if_pos c13] at h
          refine a_aload_n hΓ 0 dX12_spans_29 rfl rfl ?_
          refine a_aload_n hΓ 0 dX12_spans_30 rfl rfl ?_
          refine n_getR hΓ fl_RX12_34 cl_12 kd_102 lz_102 dX12_spans_31 ft_12_6 rf_102_6 ?_
          refine a_iload_n hΓ 3 dX12_spans_34 rfl rfl ?_
          refine a_iconst hΓ dX12_spans_35 ?_
          refine a_isub hΓ dX12_spans_36 ?_
          obtain ⟨g14, h⟩ := h
          refine n_iald (x := (M11 108 (v3 - 1))) hΓ dX12_spans_37 kd_108 lz_108 g14 rfl ?_
          refine a_aload_n hΓ 0 dX12_spans_38 rfl rfl ?_
          refine a_iload_n hΓ 1 dX12_spans_39 rfl rfl ?_
          refine a_iload_n hΓ 3 dX12_spans_40 rfl rfl ?_
          refine a_iconst hΓ dX12_spans_41 ?_
          refine a_isub hΓ dX12_spans_42 ?_
          refine a_iconst hΓ dX12_spans_43 ?_
          obtain ⟨P15, q16, h⟩ := h
          refine n_callV (c := 102) (av := [aI v1, aI (v3 - 1), aI 0]) (st := [aI (M11 108 (v3 - 1)), aR 102]) hΓ (ct_wX12_byTable _ _ v1 (v3 - 1) 0 M11 P15 q16) my_X12_byTable ml_RX12_137 ni_X12_byTable kd_102 rfl lz_102 rfl (Nat.le_trans (by decide) hh) (by decide) (Nat.le_of_ble_eq_true rfl) rfl dX12_spans_44 (fun v Z' hq => ?_)
          obtain ⟨r17, M18, rfl, rfl, hq⟩ := hq
          have h := h r17 M18 hq
          dsimp only at h
          refine a_iadd hΓ dX12_spans_47 ?_
          refine a_aload_n hΓ 0 dX12_spans_48 rfl rfl ?_
          refine n_getR hΓ fl_RX12_37 cl_12 kd_102 lz_102 dX12_spans_49 ft_12_7 rf_102_7 ?_
          refine a_iload_n hΓ 3 dX12_spans_52 rfl rfl ?_
          refine a_iconst hΓ dX12_spans_53 ?_
          refine a_isub hΓ dX12_spans_54 ?_
          refine n_iald (x := (M18 109 (v3 - 1))) hΓ dX12_spans_55 kd_109 lz_109 g14 rfl ?_
          refine a_aload_n hΓ 0 dX12_spans_56 rfl rfl ?_
          refine a_iload_n hΓ 1 dX12_spans_57 rfl rfl ?_
          refine a_iload_n hΓ 3 dX12_spans_58 rfl rfl ?_
          refine a_iconst hΓ dX12_spans_59 ?_
          refine a_isub hΓ dX12_spans_60 ?_
          refine a_iconst hΓ dX12_spans_61 ?_
          obtain ⟨P19, q20, h⟩ := h
          refine n_callV (c := 102) (av := [aI v1, aI (v3 - 1), aI 1]) (st := [aI (M18 109 (v3 - 1)), aI ((M11 108 (v3 - 1)) + r17), aR 102]) hΓ (ct_wX12_byTable _ _ v1 (v3 - 1) 1 M18 P19 q20) my_X12_byTable ml_RX12_137 ni_X12_byTable kd_102 rfl lz_102 rfl (Nat.le_trans (by decide) hh) (by decide) (Nat.le_of_ble_eq_true rfl) rfl dX12_spans_62 (fun v Z' hq => ?_)
          obtain ⟨r21, M22, rfl, rfl, hq⟩ := hq
          have h := h r21 M22 hq
          dsimp only at h
          refine a_iadd hΓ dX12_spans_65 ?_
          obtain ⟨P23, q24, h⟩ := h
          refine n_callV (c := 102) (av := [aI ((M11 108 (v3 - 1)) + r17), aI ((M18 109 (v3 - 1)) + r21)]) (st := []) hΓ (ct_wX12_meets _ _ ((M11 108 (v3 - 1)) + r17) ((M18 109 (v3 - 1)) + r21) M22 P23 q24) my_X12_meets ml_RX12_170 ni_X12_meets kd_102 rfl lz_102 rfl (Nat.le_trans (by decide) hh) (by decide) (Nat.le_of_ble_eq_true rfl) rfl dX12_spans_66 (fun v Z' hq => ?_)
          obtain ⟨M26, rfl, rfl, hq⟩ := hq
          have h := h M26 hq
          dsimp only at h
          exact s_wX12_spans_69 hΓ (Nat.le_trans (by decide) hh) hr ih M26 h
        · rw [if_neg c13] at h
          exact s_wX12_spans_69 hΓ (Nat.le_trans (by decide) hh) hr ih M11 h
    · rw [if_neg c2] at h
      refine a_bipush hΓ dX12_spans_108 (by decide) ?_
      refine a_istore_n (ls' := [(3, aI 119), (0, aR 102), (1, aI v1), (2, aI v2)]) hΓ dX12_spans_110 rfl (by decide) rfl ?_
      refine a_sub (ls' := [(0, aR 102), (1, aI v1), (3, aI 119)]) [1, 2, 0] rfl ?_
      obtain ⟨f27, h⟩ := h
      exact s_wX12_spans_111 hΓ (Nat.le_trans (by decide) hh) hr  f27 119 M h
def wX12_spans (v1 : Int) (v2 : Int) (M : Mm) (Q : Int → Mm → Prop) : Prop :=
    ∃ n, wX12_spans_2 Q v1 v2 n 0 M
set_option maxHeartbeats 4000000 in
theorem s_wX12_spans {Γ : Cx} {h : Nat} (hΓ : Ok Γ cX12_spans RX12 4 h 0 0) (hh : 9 ≤ h) (hr : (cxm Γ).sig.returnType = (some .boolean)) {Q : Int → Mm → Prop} (v1 : Int) (v2 : Int) (M : Mm) (h : wX12_spans v1 v2 M Q) : Wa Γ 4 (Kf Γ (QI Q) 0 0) 0 0 0 [(0, aR 102), (1, aI v1), (2, aI v2)] [] (NC, RF, M) := by
  unfold wX12_spans at h
  refine a_iconst hΓ dX12_spans_0 ?_
  refine a_istore_n (ls' := [(3, aI 0), (0, aR 102), (1, aI v1), (2, aI v2)]) hΓ dX12_spans_1 rfl (by decide) rfl ?_
  refine a_sub (ls' := [(0, aR 102), (1, aI v1), (2, aI v2), (3, aI 0)]) [1, 2, 3, 0] rfl ?_
  obtain ⟨f1, h⟩ := h
  exact s_wX12_spans_2 hΓ (Nat.le_trans (by decide) hh) hr  f1 0 M h
theorem ct_wX12_spans (l : Launch) (g : Gp) (v1 : Int) (v2 : Int) (M : Mm) (Q : Int → Mm → Prop) (h : wX12_spans v1 v2 M Q) : Ct l g yX12_spans cX12_spans 4 (some .boolean) 9 0 0 [aR 102, aI v1, aI v2] (NC, RF, M) (QI Q) :=
  ct_of (by decide) (Nat.le_of_ble_eq_true rfl) (fun Γ hg hl hr _ hΓ => by subst hg; subst hl; exact s_wX12_spans hΓ (by decide) hr v1 v2 M h)
def wX12_isAsked (v1 : Int) (v2 : Int) (v3 : Int) (M : Mm) (Q : Int → Mm → Prop) : Prop :=
    Bd (wX12_isShip v1 M) (fun r3 M4 =>
    (inR r3) ∧
    (if r3 = 0 then
      Q 0 M4
    else
      Bd (wX12_isDay v2 M4) (fun r9 M10 =>
      (inR r9) ∧
      (if r9 = 0 then
        Q 0 M10
      else
        Bd (wX12_isDay v3 M10) (fun r15 M16 =>
        (inR r15) ∧
        (if r15 = 0 then
          Q 0 M16
        else
          Q 1 M16))))))
set_option maxHeartbeats 4000000 in
theorem s_wX12_isAsked {Γ : Cx} {h : Nat} (hΓ : Ok Γ cX12_isAsked RX12 4 h 0 0) (hh : 3 ≤ h) (hr : (cxm Γ).sig.returnType = (some .boolean)) {Q : Int → Mm → Prop} (v1 : Int) (v2 : Int) (v3 : Int) (M : Mm) (h : wX12_isAsked v1 v2 v3 M Q) : Wa Γ 4 (Kf Γ (QI Q) 0 0) 0 0 0 [(0, aR 102), (1, aI v1), (2, aI v2), (3, aI v3)] [] (NC, RF, M) := by
  unfold wX12_isAsked at h
  refine a_aload_n hΓ 0 dX12_isAsked_0 rfl rfl ?_
  refine a_iload_n hΓ 1 dX12_isAsked_1 rfl rfl ?_
  obtain ⟨P1, q2, h⟩ := h
  refine n_callV (c := 102) (av := [aI v1]) (st := []) hΓ (ct_wX12_isShip _ _ v1 M P1 q2) my_X12_isShip ml_RX12_113 ni_X12_isShip kd_102 rfl lz_102 rfl (Nat.le_trans (by decide) hh) (by decide) (Nat.le_of_ble_eq_true rfl) rfl dX12_isAsked_2 (fun v Z' hq => ?_)
  obtain ⟨r3, M4, rfl, rfl, hq⟩ := hq
  have h := h r3 M4 hq
  dsimp only at h
  obtain ⟨g5, h⟩ := h
  refine a_if_eq (tgt := 26) hΓ g5 dX12_isAsked_5 (by decide) (fun c6 => ?_) (fun c6 => ?_)
  · rw [if_pos c6] at h
    refine a_iconst hΓ dX12_isAsked_26 ?_
    exact a_zret hΓ hr (Or.inl rfl) dX12_isAsked_27 ⟨_, _, rfl, rfl, h⟩
  · rw [if_neg c6] at h
    refine a_iload_n hΓ 2 dX12_isAsked_8 rfl rfl ?_
    obtain ⟨P7, q8, h⟩ := h
    refine n_callS (av := [aI v2]) (st := []) hΓ (ct_wX12_isDay _ _ v2 M4 P7 q8) my_X12_isDay ml_RX12_109 rfl (Nat.le_trans (by decide) hh) (by decide) (Nat.le_of_ble_eq_true rfl) rfl dX12_isAsked_9 (fun v Z' hq => ?_)
    obtain ⟨r9, M10, rfl, rfl, hq⟩ := hq
    have h := h r9 M10 hq
    dsimp only at h
    obtain ⟨g11, h⟩ := h
    refine a_if_eq (tgt := 26) hΓ g11 dX12_isAsked_12 (by decide) (fun c12 => ?_) (fun c12 => ?_)
    · rw [if_pos c12] at h
      refine a_iconst hΓ dX12_isAsked_26 ?_
      exact a_zret hΓ hr (Or.inl rfl) dX12_isAsked_27 ⟨_, _, rfl, rfl, h⟩
    · rw [if_neg c12] at h
      refine a_iload_n hΓ 3 dX12_isAsked_15 rfl rfl ?_
      obtain ⟨P13, q14, h⟩ := h
      refine n_callS (av := [aI v3]) (st := []) hΓ (ct_wX12_isDay _ _ v3 M10 P13 q14) my_X12_isDay ml_RX12_109 rfl (Nat.le_trans (by decide) hh) (by decide) (Nat.le_of_ble_eq_true rfl) rfl dX12_isAsked_16 (fun v Z' hq => ?_)
      obtain ⟨r15, M16, rfl, rfl, hq⟩ := hq
      have h := h r15 M16 hq
      dsimp only at h
      obtain ⟨g17, h⟩ := h
      refine a_if_eq (tgt := 26) hΓ g17 dX12_isAsked_19 (by decide) (fun c18 => ?_) (fun c18 => ?_)
      · rw [if_pos c18] at h
        refine a_iconst hΓ dX12_isAsked_26 ?_
        exact a_zret hΓ hr (Or.inl rfl) dX12_isAsked_27 ⟨_, _, rfl, rfl, h⟩
      · rw [if_neg c18] at h
        refine a_iconst hΓ dX12_isAsked_22 ?_
        refine a_goto (tgt := 27) hΓ dX12_isAsked_23 (by decide) ?_
        exact a_zret hΓ hr (Or.inr rfl) dX12_isAsked_27 ⟨_, _, rfl, rfl, h⟩
theorem ct_wX12_isAsked (l : Launch) (g : Gp) (v1 : Int) (v2 : Int) (v3 : Int) (M : Mm) (Q : Int → Mm → Prop) (h : wX12_isAsked v1 v2 v3 M Q) : Ct l g yX12_isAsked cX12_isAsked 4 (some .boolean) 3 0 0 [aR 102, aI v1, aI v2, aI v3] (NC, RF, M) (QI Q) :=
  ct_of (by decide) (Nat.le_of_ble_eq_true rfl) (fun Γ hg hl hr _ hΓ => by subst hg; subst hl; exact s_wX12_isAsked hΓ (by decide) hr v1 v2 v3 M h)
def wX12_endOf (v1 : Int) (v2 : Int) (M : Mm) (Q : Int → Mm → Prop) : Prop :=
    (inR v2) ∧
    (if v2 = 0 then
      (0 ≤ v1 ∧ v1 < 120) ∧
      Q (M 106 v1) M
    else
      (0 ≤ v1 ∧ v1 < 120) ∧
      Q (M 107 v1) M)
set_option maxHeartbeats 4000000 in
theorem s_wX12_endOf {Γ : Cx} {h : Nat} (hΓ : Ok Γ cX12_endOf RX12 3 h 0 0) (hh : 1 ≤ h) (hr : (cxm Γ).sig.returnType = (some .int)) {Q : Int → Mm → Prop} (v1 : Int) (v2 : Int) (M : Mm) (h : wX12_endOf v1 v2 M Q) : Wa Γ 3 (Kf Γ (QI Q) 0 0) 0 0 0 [(0, aR 102), (1, aI v1), (2, aI v2)] [] (NC, RF, M) := by
  unfold wX12_endOf at h
  refine a_iload_n hΓ 2 dX12_endOf_0 rfl rfl ?_
  obtain ⟨g1, h⟩ := h
  refine a_if_ne (tgt := 13) hΓ g1 dX12_endOf_1 (by decide) (fun c2 => ?_) (fun c2 => ?_)
  · rw [if_pos c2] at h
    refine a_aload_n hΓ 0 dX12_endOf_4 rfl rfl ?_
    refine n_getR hΓ fl_RX12_28 cl_12 kd_102 lz_102 dX12_endOf_5 ft_12_4 rf_102_4 ?_
    refine a_iload_n hΓ 1 dX12_endOf_8 rfl rfl ?_
    obtain ⟨g3, h⟩ := h
    refine n_iald (x := (M 106 v1)) hΓ dX12_endOf_9 kd_106 lz_106 g3 rfl ?_
    refine a_goto (tgt := 19) hΓ dX12_endOf_10 (by decide) ?_
    exact a_iret hΓ hr dX12_endOf_19 ⟨_, _, rfl, rfl, h⟩
  · rw [if_neg c2] at h
    refine a_aload_n hΓ 0 dX12_endOf_13 rfl rfl ?_
    refine n_getR hΓ fl_RX12_31 cl_12 kd_102 lz_102 dX12_endOf_14 ft_12_5 rf_102_5 ?_
    refine a_iload_n hΓ 1 dX12_endOf_17 rfl rfl ?_
    obtain ⟨g4, h⟩ := h
    refine n_iald (x := (M 107 v1)) hΓ dX12_endOf_18 kd_107 lz_107 g4 rfl ?_
    exact a_iret hΓ hr dX12_endOf_19 ⟨_, _, rfl, rfl, h⟩
theorem ct_wX12_endOf (l : Launch) (g : Gp) (v1 : Int) (v2 : Int) (M : Mm) (Q : Int → Mm → Prop) (h : wX12_endOf v1 v2 M Q) : Ct l g yX12_endOf cX12_endOf 3 (some .int) 1 0 0 [aR 102, aI v1, aI v2] (NC, RF, M) (QI Q) :=
  ct_of (by decide) (Nat.le_of_ble_eq_true rfl) (fun Γ hg hl hr _ hΓ => by subst hg; subst hl; exact s_wX12_endOf hΓ (by decide) hr v1 v2 M h)
def wX12_span (v1 : Int) (v2 : Int) (v3 : Int) (v4 : Int) (M : Mm) (Q : Int → Mm → Prop) : Prop :=
    Bd (wX12_isAsked v1 v2 v3 M) (fun r3 M4 =>
    (inR r3) ∧
    (if r3 = 0 then
      Q (-1) M4
    else
      Bd (wX12_in v4 0 1 M4) (fun r9 M10 =>
      (inR r9) ∧
      (if r9 = 0 then
        Q (-1) M10
      else
        Bd (wX12_counting v1 v3 M10) (fun r15 M16 =>
        Bd (wX12_spans v1 r15 M16) (fun r19 M20 =>
        (inR r19) ∧
        (if r19 = 0 then
          Q (-1) M20
        else
          Bd (wX12_endOf v2 v4 M20) (fun r25 M26 =>
          Q r25 M26))))))))
set_option maxHeartbeats 4000000 in
theorem s_wX12_span {Γ : Cx} {h : Nat} (hΓ : Ok Γ cX12_span RX12 5 h 0 0) (hh : 10 ≤ h) (hr : (cxm Γ).sig.returnType = (some .int)) {Q : Int → Mm → Prop} (v1 : Int) (v2 : Int) (v3 : Int) (v4 : Int) (M : Mm) (h : wX12_span v1 v2 v3 v4 M Q) : Wa Γ 5 (Kf Γ (QI Q) 0 0) 0 0 0 [(0, aR 102), (1, aI v1), (2, aI v2), (3, aI v3), (4, aI v4)] [] (NC, RF, M) := by
  unfold wX12_span at h
  refine a_aload_n hΓ 0 dX12_span_0 rfl rfl ?_
  refine a_iload_n hΓ 1 dX12_span_1 rfl rfl ?_
  refine a_iload_n hΓ 2 dX12_span_2 rfl rfl ?_
  refine a_iload_n hΓ 3 dX12_span_3 rfl rfl ?_
  obtain ⟨P1, q2, h⟩ := h
  refine n_callV (c := 102) (av := [aI v1, aI v2, aI v3]) (st := []) hΓ (ct_wX12_isAsked _ _ v1 v2 v3 M P1 q2) my_X12_isAsked ml_RX12_174 ni_X12_isAsked kd_102 rfl lz_102 rfl (Nat.le_trans (by decide) hh) (by decide) (Nat.le_of_ble_eq_true rfl) rfl dX12_span_4 (fun v Z' hq => ?_)
  obtain ⟨r3, M4, rfl, rfl, hq⟩ := hq
  have h := h r3 M4 hq
  dsimp only at h
  obtain ⟨g5, h⟩ := h
  refine a_if_eq (tgt := 44) hΓ g5 dX12_span_7 (by decide) (fun c6 => ?_) (fun c6 => ?_)
  · rw [if_pos c6] at h
    refine a_iconst hΓ dX12_span_44 ?_
    exact a_iret hΓ hr dX12_span_45 ⟨_, _, rfl, rfl, h⟩
  · rw [if_neg c6] at h
    refine a_iload hΓ 4 dX12_span_10 rfl ?_
    refine a_iconst hΓ dX12_span_12 ?_
    refine a_iconst hΓ dX12_span_13 ?_
    obtain ⟨P7, q8, h⟩ := h
    refine n_callS (av := [aI v4, aI 0, aI 1]) (st := []) hΓ (ct_wX12_in _ _ v4 0 1 M4 P7 q8) my_X12_in ml_RX12_3 rfl (Nat.le_trans (by decide) hh) (by decide) (Nat.le_of_ble_eq_true rfl) rfl dX12_span_14 (fun v Z' hq => ?_)
    obtain ⟨r9, M10, rfl, rfl, hq⟩ := hq
    have h := h r9 M10 hq
    dsimp only at h
    obtain ⟨g11, h⟩ := h
    refine a_if_eq (tgt := 44) hΓ g11 dX12_span_17 (by decide) (fun c12 => ?_) (fun c12 => ?_)
    · rw [if_pos c12] at h
      refine a_iconst hΓ dX12_span_44 ?_
      exact a_iret hΓ hr dX12_span_45 ⟨_, _, rfl, rfl, h⟩
    · rw [if_neg c12] at h
      refine a_aload_n hΓ 0 dX12_span_20 rfl rfl ?_
      refine a_iload_n hΓ 1 dX12_span_21 rfl rfl ?_
      refine a_aload_n hΓ 0 dX12_span_22 rfl rfl ?_
      refine a_iload_n hΓ 1 dX12_span_23 rfl rfl ?_
      refine a_iload_n hΓ 3 dX12_span_24 rfl rfl ?_
      obtain ⟨P13, q14, h⟩ := h
      refine n_callV (c := 102) (av := [aI v1, aI v3]) (st := [aI v1, aR 102]) hΓ (ct_wX12_counting _ _ v1 v3 M10 P13 q14) my_X12_counting ml_RX12_177 ni_X12_counting kd_102 rfl lz_102 rfl (Nat.le_trans (by decide) hh) (by decide) (Nat.le_of_ble_eq_true rfl) rfl dX12_span_25 (fun v Z' hq => ?_)
      obtain ⟨r15, M16, rfl, rfl, hq⟩ := hq
      have h := h r15 M16 hq
      dsimp only at h
      obtain ⟨P17, q18, h⟩ := h
      refine n_callV (c := 102) (av := [aI v1, aI r15]) (st := []) hΓ (ct_wX12_spans _ _ v1 r15 M16 P17 q18) my_X12_spans ml_RX12_180 ni_X12_spans kd_102 rfl lz_102 rfl (Nat.le_trans (by decide) hh) (by decide) (Nat.le_of_ble_eq_true rfl) rfl dX12_span_28 (fun v Z' hq => ?_)
      obtain ⟨r19, M20, rfl, rfl, hq⟩ := hq
      have h := h r19 M20 hq
      dsimp only at h
      obtain ⟨g21, h⟩ := h
      refine a_if_eq (tgt := 44) hΓ g21 dX12_span_31 (by decide) (fun c22 => ?_) (fun c22 => ?_)
      · rw [if_pos c22] at h
        refine a_iconst hΓ dX12_span_44 ?_
        exact a_iret hΓ hr dX12_span_45 ⟨_, _, rfl, rfl, h⟩
      · rw [if_neg c22] at h
        refine a_aload_n hΓ 0 dX12_span_34 rfl rfl ?_
        refine a_iload_n hΓ 2 dX12_span_35 rfl rfl ?_
        refine a_iload hΓ 4 dX12_span_36 rfl ?_
        obtain ⟨P23, q24, h⟩ := h
        refine n_callV (c := 102) (av := [aI v2, aI v4]) (st := []) hΓ (ct_wX12_endOf _ _ v2 v4 M20 P23 q24) my_X12_endOf ml_RX12_184 ni_X12_endOf kd_102 rfl lz_102 rfl (Nat.le_trans (by decide) hh) (by decide) (Nat.le_of_ble_eq_true rfl) rfl dX12_span_38 (fun v Z' hq => ?_)
        obtain ⟨r25, M26, rfl, rfl, hq⟩ := hq
        have h := h r25 M26 hq
        dsimp only at h
        refine a_goto (tgt := 45) hΓ dX12_span_41 (by decide) ?_
        exact a_iret hΓ hr dX12_span_45 ⟨_, _, rfl, rfl, h⟩
theorem ct_wX12_span (l : Launch) (g : Gp) (v1 : Int) (v2 : Int) (v3 : Int) (v4 : Int) (M : Mm) (Q : Int → Mm → Prop) (h : wX12_span v1 v2 v3 v4 M Q) : Ct l g yX12_span cX12_span 5 (some .int) 10 0 0 [aR 102, aI v1, aI v2, aI v3, aI v4] (NC, RF, M) (QI Q) :=
  ct_of (by decide) (Nat.le_of_ble_eq_true rfl) (fun Γ hg hl hr _ hΓ => by subst hg; subst hl; exact s_wX12_span hΓ (by decide) hr v1 v2 v3 v4 M h)
def wX12_why_77 (Q : Int → Mm → Prop) (v1 : Int) (v2 : Int) (v4 : Int) (v5 : Int) (v6 : Int) : Nat → Int → Mm → Prop
  | 0, _, _ => False
  | f + 1, v7, M => (inR v7) ∧
    (if v7 < 24 then
      (if (landI (shrI v5 v7) 1) = 1 then
        Bd (wX12_spans v1 (shlI 1 v7) M) (fun r6 M7 =>
        (inR r6) ∧
        (if r6 = 0 then
          (wX12_why_77 Q v1 v2 v4 v5 v6 f) (v7 + 1) M7
        else
          Bd (wX12_endOf v2 v4 M7) (fun r12 M13 =>
          (inR r12) ∧
          (inR v6) ∧
          (if r12 = v6 then
            Q v7 M13
          else
            (wX12_why_77 Q v1 v2 v4 v5 v6 f) (v7 + 1) M13))))
      else
        (wX12_why_77 Q v1 v2 v4 v5 v6 f) (v7 + 1) M)
    else
      Q (-1) M)
set_option maxHeartbeats 4000000 in
theorem s_wX12_why_77 {Γ : Cx} {h : Nat} (hΓ : Ok Γ cX12_why RX12 8 h 0 0) (hh : 10 ≤ h) (hr : (cxm Γ).sig.returnType = (some .int)) {Q : Int → Mm → Prop} {v1 v2 v4 v5 v6 : Int}   : ∀ (f : Nat) (v7 : Int) (M : Mm), wX12_why_77 Q v1 v2 v4 v5 v6 f v7 M → Wa Γ 8 (Kf Γ (QI Q) 0 0) 0 0 77 [(0, aR 102), (1, aI v1), (2, aI v2), (4, aI v4), (5, aI v5), (6, aI v6), (7, aI v7)] [] (NC, RF, M) := by
  intro f
  induction f with
  | zero => intro v7 M h; exact h.elim
  | succ f ih =>
    intro v7 M h
    unfold wX12_why_77 at h
    refine a_iload hΓ 6 dX12_why_77 rfl ?_
    refine a_bipush hΓ dX12_why_79 (by decide) ?_
    obtain ⟨g1, h⟩ := h
    refine a_icmp_ge (tgt := 128) hΓ g1 (inRl (by decide)) dX12_why_81 (by decide) (fun c2 => ?_) (fun c2 => ?_)
    · rw [if_pos c2] at h
      refine a_iload hΓ 4 dX12_why_84 rfl ?_
      refine a_iload hΓ 6 dX12_why_86 rfl ?_
      refine a_ishr hΓ dX12_why_88 ?_
      refine a_iconst hΓ dX12_why_89 ?_
      refine a_iand hΓ dX12_why_90 ?_
      refine a_iconst hΓ dX12_why_91 ?_
      refine a_icmp_ne (tgt := 122) hΓ (inR_land _ _) (inRl (by decide)) dX12_why_92 (by decide) (fun c3 => ?_) (fun c3 => ?_)
      · rw [if_pos c3] at h
        refine a_aload_n hΓ 0 dX12_why_95 rfl rfl ?_
        refine a_iload_n hΓ 1 dX12_why_96 rfl rfl ?_
        refine a_iconst hΓ dX12_why_97 ?_
        refine a_iload hΓ 6 dX12_why_98 rfl ?_
        refine a_ishl hΓ dX12_why_100 ?_
        obtain ⟨P4, q5, h⟩ := h
        refine n_callV (c := 102) (av := [aI v1, aI (shlI 1 v7)]) (st := []) hΓ (ct_wX12_spans _ _ v1 (shlI 1 v7) M P4 q5) my_X12_spans ml_RX12_180 ni_X12_spans kd_102 rfl lz_102 rfl (Nat.le_trans (by decide) hh) (by decide) (Nat.le_of_ble_eq_true rfl) rfl dX12_why_101 (fun v Z' hq => ?_)
        obtain ⟨r6, M7, rfl, rfl, hq⟩ := hq
        have h := h r6 M7 hq
        dsimp only at h
        obtain ⟨g8, h⟩ := h
        refine a_if_eq (tgt := 122) hΓ g8 dX12_why_104 (by decide) (fun c9 => ?_) (fun c9 => ?_)
        · rw [if_pos c9] at h
          refine a_iinc (ls' := [(7, aI (v7 + 1)), (0, aR 102), (1, aI v1), (2, aI v2), (4, aI v4), (5, aI v5), (6, aI v6)]) hΓ 6 dX12_why_122 rfl (by decide) rfl ?_
          refine a_goto (tgt := 77) hΓ dX12_why_125 (by decide) ?_
          refine a_sub (ls' := [(0, aR 102), (1, aI v1), (2, aI v2), (4, aI v4), (5, aI v5), (6, aI v6), (7, aI (v7 + 1))]) [1, 2, 3, 4, 5, 6, 0] rfl ?_
          exact ih (v7 + 1) M7 h
        · rw [if_neg c9] at h
          refine a_aload_n hΓ 0 dX12_why_107 rfl rfl ?_
          refine a_iload_n hΓ 2 dX12_why_108 rfl rfl ?_
          refine a_iload hΓ 3 dX12_why_109 rfl ?_
          obtain ⟨P10, q11, h⟩ := h
          refine n_callV (c := 102) (av := [aI v2, aI v4]) (st := []) hΓ (ct_wX12_endOf _ _ v2 v4 M7 P10 q11) my_X12_endOf ml_RX12_184 ni_X12_endOf kd_102 rfl lz_102 rfl (Nat.le_trans (by decide) hh) (by decide) (Nat.le_of_ble_eq_true rfl) rfl dX12_why_111 (fun v Z' hq => ?_)
          obtain ⟨r12, M13, rfl, rfl, hq⟩ := hq
          have h := h r12 M13 hq
          dsimp only at h
          refine a_iload hΓ 5 dX12_why_114 rfl ?_
          obtain ⟨g14, h⟩ := h
          obtain ⟨g15, h⟩ := h
          refine a_icmp_ne (tgt := 122) hΓ g14 g15 dX12_why_116 (by decide) (fun c16 => ?_) (fun c16 => ?_)
          · rw [if_pos c16] at h
            refine a_iload hΓ 6 dX12_why_119 rfl ?_
            exact a_iret hΓ hr dX12_why_121 ⟨_, _, rfl, rfl, h⟩
          · rw [if_neg c16] at h
            refine a_iinc (ls' := [(7, aI (v7 + 1)), (0, aR 102), (1, aI v1), (2, aI v2), (4, aI v4), (5, aI v5), (6, aI v6)]) hΓ 6 dX12_why_122 rfl (by decide) rfl ?_
            refine a_goto (tgt := 77) hΓ dX12_why_125 (by decide) ?_
            refine a_sub (ls' := [(0, aR 102), (1, aI v1), (2, aI v2), (4, aI v4), (5, aI v5), (6, aI v6), (7, aI (v7 + 1))]) [1, 2, 3, 4, 5, 6, 0] rfl ?_
            exact ih (v7 + 1) M13 h
      · rw [if_neg c3] at h
        refine a_iinc (ls' := [(7, aI (v7 + 1)), (0, aR 102), (1, aI v1), (2, aI v2), (4, aI v4), (5, aI v5), (6, aI v6)]) hΓ 6 dX12_why_122 rfl (by decide) rfl ?_
        refine a_goto (tgt := 77) hΓ dX12_why_125 (by decide) ?_
        refine a_sub (ls' := [(0, aR 102), (1, aI v1), (2, aI v2), (4, aI v4), (5, aI v5), (6, aI v6), (7, aI (v7 + 1))]) [1, 2, 3, 4, 5, 6, 0] rfl ?_
        exact ih (v7 + 1) M h
    · rw [if_neg c2] at h
      refine a_iconst hΓ dX12_why_128 ?_
      exact a_iret hΓ hr dX12_why_129 ⟨_, _, rfl, rfl, h⟩
def wX12_why (v1 : Int) (v2 : Int) (v3 : Int) (v4 : Int) (M : Mm) (Q : Int → Mm → Prop) : Prop :=
    Bd (wX12_isAsked v1 v2 v3 M) (fun r3 M4 =>
    (inR r3) ∧
    (if r3 = 0 then
      Q (-1) M4
    else
      Bd (wX12_in v4 0 1 M4) (fun r9 M10 =>
      (inR r9) ∧
      (if r9 = 0 then
        Q (-1) M10
      else
        Bd (wX12_counting v1 v3 M10) (fun r15 M16 =>
        Bd (wX12_spans v1 r15 M16) (fun r19 M20 =>
        (inR r19) ∧
        (if r19 = 0 then
          Q (-1) M20
        else
          Bd (wX12_endOf v2 v4 M20) (fun r25 M26 =>
          Bd (wX12_spans v1 0 M26) (fun r29 M30 =>
          (inR r29) ∧
          (if r29 = 0 then
            ∃ n, wX12_why_77 Q v1 v2 v4 r15 r25 n 0 M30
          else
            Bd (wX12_endOf v2 v4 M30) (fun r36 M37 =>
            (inR r36) ∧
            (inR r25) ∧
            (if r36 = r25 then
              Q (-1) M37
            else
              ∃ n, wX12_why_77 Q v1 v2 v4 r15 r25 n 0 M37))))))))))))
set_option maxHeartbeats 4000000 in
theorem s_wX12_why {Γ : Cx} {h : Nat} (hΓ : Ok Γ cX12_why RX12 8 h 0 0) (hh : 10 ≤ h) (hr : (cxm Γ).sig.returnType = (some .int)) {Q : Int → Mm → Prop} (v1 : Int) (v2 : Int) (v3 : Int) (v4 : Int) (M : Mm) (h : wX12_why v1 v2 v3 v4 M Q) : Wa Γ 8 (Kf Γ (QI Q) 0 0) 0 0 0 [(0, aR 102), (1, aI v1), (2, aI v2), (3, aI v3), (4, aI v4)] [] (NC, RF, M) := by
  unfold wX12_why at h
  refine a_aload_n hΓ 0 dX12_why_0 rfl rfl ?_
  refine a_iload_n hΓ 1 dX12_why_1 rfl rfl ?_
  refine a_iload_n hΓ 2 dX12_why_2 rfl rfl ?_
  refine a_iload_n hΓ 3 dX12_why_3 rfl rfl ?_
  obtain ⟨P1, q2, h⟩ := h
  refine n_callV (c := 102) (av := [aI v1, aI v2, aI v3]) (st := []) hΓ (ct_wX12_isAsked _ _ v1 v2 v3 M P1 q2) my_X12_isAsked ml_RX12_174 ni_X12_isAsked kd_102 rfl lz_102 rfl (Nat.le_trans (by decide) hh) (by decide) (Nat.le_of_ble_eq_true rfl) rfl dX12_why_4 (fun v Z' hq => ?_)
  obtain ⟨r3, M4, rfl, rfl, hq⟩ := hq
  have h := h r3 M4 hq
  dsimp only at h
  obtain ⟨g5, h⟩ := h
  refine a_if_eq (tgt := 20) hΓ g5 dX12_why_7 (by decide) (fun c6 => ?_) (fun c6 => ?_)
  · rw [if_pos c6] at h
    refine a_iconst hΓ dX12_why_20 ?_
    exact a_iret hΓ hr dX12_why_21 ⟨_, _, rfl, rfl, h⟩
  · rw [if_neg c6] at h
    refine a_iload hΓ 4 dX12_why_10 rfl ?_
    refine a_iconst hΓ dX12_why_12 ?_
    refine a_iconst hΓ dX12_why_13 ?_
    obtain ⟨P7, q8, h⟩ := h
    refine n_callS (av := [aI v4, aI 0, aI 1]) (st := []) hΓ (ct_wX12_in _ _ v4 0 1 M4 P7 q8) my_X12_in ml_RX12_3 rfl (Nat.le_trans (by decide) hh) (by decide) (Nat.le_of_ble_eq_true rfl) rfl dX12_why_14 (fun v Z' hq => ?_)
    obtain ⟨r9, M10, rfl, rfl, hq⟩ := hq
    have h := h r9 M10 hq
    dsimp only at h
    obtain ⟨g11, h⟩ := h
    refine a_if_ne (tgt := 22) hΓ g11 dX12_why_17 (by decide) (fun c12 => ?_) (fun c12 => ?_)
    · rw [if_pos c12] at h
      refine a_iconst hΓ dX12_why_20 ?_
      exact a_iret hΓ hr dX12_why_21 ⟨_, _, rfl, rfl, h⟩
    · rw [if_neg c12] at h
      refine a_aload_n hΓ 0 dX12_why_22 rfl rfl ?_
      refine a_iload_n hΓ 1 dX12_why_23 rfl rfl ?_
      refine a_iload_n hΓ 3 dX12_why_24 rfl rfl ?_
      obtain ⟨P13, q14, h⟩ := h
      refine n_callV (c := 102) (av := [aI v1, aI v3]) (st := []) hΓ (ct_wX12_counting _ _ v1 v3 M10 P13 q14) my_X12_counting ml_RX12_177 ni_X12_counting kd_102 rfl lz_102 rfl (Nat.le_trans (by decide) hh) (by decide) (Nat.le_of_ble_eq_true rfl) rfl dX12_why_25 (fun v Z' hq => ?_)
      obtain ⟨r15, M16, rfl, rfl, hq⟩ := hq
      have h := h r15 M16 hq
      dsimp only at h
      refine a_istore (ls' := [(5, aI r15), (0, aR 102), (1, aI v1), (2, aI v2), (3, aI v3), (4, aI v4)]) hΓ dX12_why_28 (by decide) rfl ?_
      refine a_aload_n hΓ 1 dX12_why_30 rfl rfl ?_
      refine a_iload_n hΓ 2 dX12_why_31 rfl rfl ?_
      refine a_iload hΓ 0 dX12_why_32 rfl ?_
      obtain ⟨P17, q18, h⟩ := h
      refine n_callV (c := 102) (av := [aI v1, aI r15]) (st := []) hΓ (ct_wX12_spans _ _ v1 r15 M16 P17 q18) my_X12_spans ml_RX12_180 ni_X12_spans kd_102 rfl lz_102 rfl (Nat.le_trans (by decide) hh) (by decide) (Nat.le_of_ble_eq_true rfl) rfl dX12_why_34 (fun v Z' hq => ?_)
      obtain ⟨r19, M20, rfl, rfl, hq⟩ := hq
      have h := h r19 M20 hq
      dsimp only at h
      obtain ⟨g21, h⟩ := h
      refine a_if_ne (tgt := 42) hΓ g21 dX12_why_37 (by decide) (fun c22 => ?_) (fun c22 => ?_)
      · rw [if_pos c22] at h
        refine a_iconst hΓ dX12_why_40 ?_
        exact a_iret hΓ hr dX12_why_41 ⟨_, _, rfl, rfl, h⟩
      · rw [if_neg c22] at h
        refine a_aload_n hΓ 1 dX12_why_42 rfl rfl ?_
        refine a_iload_n hΓ 3 dX12_why_43 rfl rfl ?_
        refine a_iload hΓ 5 dX12_why_44 rfl ?_
        obtain ⟨P23, q24, h⟩ := h
        refine n_callV (c := 102) (av := [aI v2, aI v4]) (st := []) hΓ (ct_wX12_endOf _ _ v2 v4 M20 P23 q24) my_X12_endOf ml_RX12_184 ni_X12_endOf kd_102 rfl lz_102 rfl (Nat.le_trans (by decide) hh) (by decide) (Nat.le_of_ble_eq_true rfl) rfl dX12_why_46 (fun v Z' hq => ?_)
        obtain ⟨r25, M26, rfl, rfl, hq⟩ := hq
        have h := h r25 M26 hq
        dsimp only at h
        refine a_istore (ls' := [(6, aI r25), (5, aI r15), (0, aR 102), (1, aI v1), (2, aI v2), (3, aI v3), (4, aI v4)]) hΓ dX12_why_49 (by decide) rfl ?_
        refine a_aload_n hΓ 2 dX12_why_51 rfl rfl ?_
        refine a_iload_n hΓ 3 dX12_why_52 rfl rfl ?_
        refine a_iconst hΓ dX12_why_53 ?_
        obtain ⟨P27, q28, h⟩ := h
        refine n_callV (c := 102) (av := [aI v1, aI 0]) (st := []) hΓ (ct_wX12_spans _ _ v1 0 M26 P27 q28) my_X12_spans ml_RX12_180 ni_X12_spans kd_102 rfl lz_102 rfl (Nat.le_trans (by decide) hh) (by decide) (Nat.le_of_ble_eq_true rfl) rfl dX12_why_54 (fun v Z' hq => ?_)
        obtain ⟨r29, M30, rfl, rfl, hq⟩ := hq
        have h := h r29 M30 hq
        dsimp only at h
        obtain ⟨g31, h⟩ := h
        refine a_if_eq (tgt := 74) hΓ g31 dX12_why_57 (by decide) (fun c32 => ?_) (fun c32 => ?_)
        · rw [if_pos c32] at h
          refine a_iconst hΓ dX12_why_74 ?_
          refine a_istore (ls' := [(7, aI 0), (6, aI r25), (5, aI r15), (0, aR 102), (1, aI v1), (2, aI v2), (3, aI v3), (4, aI v4)]) hΓ dX12_why_75 (by decide) rfl ?_
          refine a_sub (ls' := [(0, aR 102), (1, aI v1), (2, aI v2), (4, aI v4), (5, aI r15), (6, aI r25), (7, aI 0)]) [3, 4, 5, 7, 2, 1, 0] rfl ?_
          obtain ⟨f33, h⟩ := h
          exact s_wX12_why_77 hΓ (Nat.le_trans (by decide) hh) hr  f33 0 M30 h
        · rw [if_neg c32] at h
          refine a_aload_n hΓ 2 dX12_why_60 rfl rfl ?_
          refine a_iload_n hΓ 4 dX12_why_61 rfl rfl ?_
          refine a_iload hΓ 6 dX12_why_62 rfl ?_
          obtain ⟨P34, q35, h⟩ := h
          refine n_callV (c := 102) (av := [aI v2, aI v4]) (st := []) hΓ (ct_wX12_endOf _ _ v2 v4 M30 P34 q35) my_X12_endOf ml_RX12_184 ni_X12_endOf kd_102 rfl lz_102 rfl (Nat.le_trans (by decide) hh) (by decide) (Nat.le_of_ble_eq_true rfl) rfl dX12_why_64 (fun v Z' hq => ?_)
          obtain ⟨r36, M37, rfl, rfl, hq⟩ := hq
          have h := h r36 M37 hq
          dsimp only at h
          refine a_iload hΓ 0 dX12_why_67 rfl ?_
          obtain ⟨g38, h⟩ := h
          obtain ⟨g39, h⟩ := h
          refine a_icmp_ne (tgt := 74) hΓ g38 g39 dX12_why_69 (by decide) (fun c40 => ?_) (fun c40 => ?_)
          · rw [if_pos c40] at h
            refine a_iconst hΓ dX12_why_72 ?_
            exact a_iret hΓ hr dX12_why_73 ⟨_, _, rfl, rfl, h⟩
          · rw [if_neg c40] at h
            refine a_iconst hΓ dX12_why_74 ?_
            refine a_istore (ls' := [(7, aI 0), (6, aI r25), (5, aI r15), (0, aR 102), (1, aI v1), (2, aI v2), (3, aI v3), (4, aI v4)]) hΓ dX12_why_75 (by decide) rfl ?_
            refine a_sub (ls' := [(0, aR 102), (1, aI v1), (2, aI v2), (4, aI v4), (5, aI r15), (6, aI r25), (7, aI 0)]) [3, 4, 5, 7, 2, 1, 0] rfl ?_
            obtain ⟨f41, h⟩ := h
            exact s_wX12_why_77 hΓ (Nat.le_trans (by decide) hh) hr  f41 0 M37 h
theorem ct_wX12_why (l : Launch) (g : Gp) (v1 : Int) (v2 : Int) (v3 : Int) (v4 : Int) (M : Mm) (Q : Int → Mm → Prop) (h : wX12_why v1 v2 v3 v4 M Q) : Ct l g yX12_why cX12_why 8 (some .int) 10 0 0 [aR 102, aI v1, aI v2, aI v3, aI v4] (NC, RF, M) (QI Q) :=
  ct_of (by decide) (Nat.le_of_ble_eq_true rfl) (fun Γ hg hl hr _ hΓ => by subst hg; subst hl; exact s_wX12_why hΓ (by decide) hr v1 v2 v3 v4 M h)
def wX12_lost_56 (Q : Int → Mm → Prop) (v1 : Int) (v3 : Int) (v5 : Int) : Nat → Int → Int → Mm → Prop
  | 0, _, _, _ => False
  | f + 1, v6, v8, M => (inR v8) ∧
    (inR v3) ∧
    (if v8 ≤ v3 then
      Bd (wX12_endOf v8 v5 M) (fun r6 M7 =>
      Bd (wX12_skin v1 v8 r6 M7) (fun r10 M11 =>
      (inR r10) ∧
      (wX12_lost_56 Q v1 v3 v5 f) (v6 + r10) (v8 + 1) M11))
    else
      Q v6 M)
set_option maxHeartbeats 4000000 in
theorem s_wX12_lost_56 {Γ : Cx} {h : Nat} (hΓ : Ok Γ cX12_lost RX12 9 h 0 0) (hh : 10 ≤ h) (hr : (cxm Γ).sig.returnType = (some .long)) {Q : Int → Mm → Prop} {v1 v3 v5 : Int}   : ∀ (f : Nat) (v6 : Int) (v8 : Int) (M : Mm), wX12_lost_56 Q v1 v3 v5 f v6 v8 M → Wa Γ 9 (Kf Γ (QL Q) 0 0) 0 0 56 [(0, aR 102), (1, aI v1), (3, aI v3), (5, aI v5), (6, aL v6), (8, aI v8)] [] (NC, RF, M) := by
  intro f
  induction f with
  | zero => intro v6 v8 M h; exact h.elim
  | succ f ih =>
    intro v6 v8 M h
    unfold wX12_lost_56 at h
    refine a_iload hΓ 5 dX12_lost_56 rfl ?_
    refine a_iload_n hΓ 2 dX12_lost_58 rfl rfl ?_
    obtain ⟨g1, h⟩ := h
    obtain ⟨g2, h⟩ := h
    refine a_icmp_gt (tgt := 89) hΓ g1 g2 dX12_lost_59 (by decide) (fun c3 => ?_) (fun c3 => ?_)
    · rw [if_pos c3] at h
      refine a_lload hΓ 4 dX12_lost_62 rfl ?_
      refine a_aload_n hΓ 0 dX12_lost_64 rfl rfl ?_
      refine a_iload_n hΓ 1 dX12_lost_65 rfl rfl ?_
      refine a_iload hΓ 5 dX12_lost_66 rfl ?_
      refine a_aload_n hΓ 0 dX12_lost_68 rfl rfl ?_
      refine a_iload hΓ 5 dX12_lost_69 rfl ?_
      refine a_iload hΓ 3 dX12_lost_71 rfl ?_
      obtain ⟨P4, q5, h⟩ := h
      refine n_callV (c := 102) (av := [aI v8, aI v5]) (st := [aI v8, aI v1, aR 102, aL v6]) hΓ (ct_wX12_endOf _ _ v8 v5 M P4 q5) my_X12_endOf ml_RX12_184 ni_X12_endOf kd_102 rfl lz_102 rfl (Nat.le_trans (by decide) hh) (by decide) (Nat.le_of_ble_eq_true rfl) rfl dX12_lost_73 (fun v Z' hq => ?_)
      obtain ⟨r6, M7, rfl, rfl, hq⟩ := hq
      have h := h r6 M7 hq
      dsimp only at h
      obtain ⟨P8, q9, h⟩ := h
      refine n_callV (c := 102) (av := [aI v1, aI v8, aI r6]) (st := [aL v6]) hΓ (ct_wX12_skin _ _ v1 v8 r6 M7 P8 q9) my_X12_skin ml_RX12_189 ni_X12_skin kd_102 rfl lz_102 rfl (Nat.le_trans (by decide) hh) (by decide) (Nat.le_of_ble_eq_true rfl) rfl dX12_lost_76 (fun v Z' hq => ?_)
      obtain ⟨r10, M11, rfl, rfl, hq⟩ := hq
      have h := h r10 M11 hq
      dsimp only at h
      obtain ⟨g12, h⟩ := h
      refine a_i2l hΓ g12 dX12_lost_79 ?_
      refine a_ladd hΓ dX12_lost_80 ?_
      refine a_lstore (ls' := [(6, aL (v6 + r10)), (0, aR 102), (1, aI v1), (3, aI v3), (5, aI v5), (8, aI v8)]) hΓ dX12_lost_81 (by decide) rfl ?_
      refine a_iinc (ls' := [(8, aI (v8 + 1)), (6, aL (v6 + r10)), (0, aR 102), (1, aI v1), (3, aI v3), (5, aI v5)]) hΓ 5 dX12_lost_83 rfl (by decide) rfl ?_
      refine a_goto (tgt := 56) hΓ dX12_lost_86 (by decide) ?_
      refine a_sub (ls' := [(0, aR 102), (1, aI v1), (3, aI v3), (5, aI v5), (6, aL (v6 + r10)), (8, aI (v8 + 1))]) [2, 3, 4, 5, 1, 0] rfl ?_
      exact ih (v6 + r10) (v8 + 1) M11 h
    · rw [if_neg c3] at h
      refine a_lload hΓ 4 dX12_lost_89 rfl ?_
      exact a_lret hΓ hr dX12_lost_91 ⟨_, _, rfl, rfl, h⟩
def wX12_lost (v1 : Int) (v2 : Int) (v3 : Int) (v4 : Int) (v5 : Int) (M : Mm) (Q : Int → Mm → Prop) : Prop :=
    Bd (wX12_isAsked v1 v2 v4 M) (fun r3 M4 =>
    (inR r3) ∧
    (if r3 = 0 then
      Q (-1) M4
    else
      Bd (wX12_in v3 v2 119 M4) (fun r9 M10 =>
      (inR r9) ∧
      (if r9 = 0 then
        Q (-1) M10
      else
        Bd (wX12_in v5 0 1 M10) (fun r15 M16 =>
        (inR r15) ∧
        (if r15 = 0 then
          Q (-1) M16
        else
          Bd (wX12_counting v1 v4 M16) (fun r21 M22 =>
          Bd (wX12_spans v1 r21 M22) (fun r25 M26 =>
          (inR r25) ∧
          (if r25 = 0 then
            Q (-1) M26
          else
            ∃ n, wX12_lost_56 Q v1 v3 v5 n 0 v2 M26)))))))))
set_option maxHeartbeats 4000000 in
theorem s_wX12_lost {Γ : Cx} {h : Nat} (hΓ : Ok Γ cX12_lost RX12 9 h 0 0) (hh : 10 ≤ h) (hr : (cxm Γ).sig.returnType = (some .long)) {Q : Int → Mm → Prop} (v1 : Int) (v2 : Int) (v3 : Int) (v4 : Int) (v5 : Int) (M : Mm) (h : wX12_lost v1 v2 v3 v4 v5 M Q) : Wa Γ 9 (Kf Γ (QL Q) 0 0) 0 0 0 [(0, aR 102), (1, aI v1), (2, aI v2), (3, aI v3), (4, aI v4), (5, aI v5)] [] (NC, RF, M) := by
  unfold wX12_lost at h
  refine a_aload_n hΓ 0 dX12_lost_0 rfl rfl ?_
  refine a_iload_n hΓ 1 dX12_lost_1 rfl rfl ?_
  refine a_iload_n hΓ 2 dX12_lost_2 rfl rfl ?_
  refine a_iload hΓ 4 dX12_lost_3 rfl ?_
  obtain ⟨P1, q2, h⟩ := h
  refine n_callV (c := 102) (av := [aI v1, aI v2, aI v4]) (st := []) hΓ (ct_wX12_isAsked _ _ v1 v2 v4 M P1 q2) my_X12_isAsked ml_RX12_174 ni_X12_isAsked kd_102 rfl lz_102 rfl (Nat.le_trans (by decide) hh) (by decide) (Nat.le_of_ble_eq_true rfl) rfl dX12_lost_5 (fun v Z' hq => ?_)
  obtain ⟨r3, M4, rfl, rfl, hq⟩ := hq
  have h := h r3 M4 hq
  dsimp only at h
  obtain ⟨g5, h⟩ := h
  refine a_if_eq (tgt := 46) hΓ g5 dX12_lost_8 (by decide) (fun c6 => ?_) (fun c6 => ?_)
  · rw [if_pos c6] at h
    refine a_ldc2_w hΓ gc_RX12_187 dX12_lost_46 ?_
    exact a_lret hΓ hr dX12_lost_49 ⟨_, _, rfl, rfl, h⟩
  · rw [if_neg c6] at h
    refine a_iload_n hΓ 3 dX12_lost_11 rfl rfl ?_
    refine a_iload_n hΓ 2 dX12_lost_12 rfl rfl ?_
    refine a_bipush hΓ dX12_lost_13 (by decide) ?_
    obtain ⟨P7, q8, h⟩ := h
    refine n_callS (av := [aI v3, aI v2, aI 119]) (st := []) hΓ (ct_wX12_in _ _ v3 v2 119 M4 P7 q8) my_X12_in ml_RX12_3 rfl (Nat.le_trans (by decide) hh) (by decide) (Nat.le_of_ble_eq_true rfl) rfl dX12_lost_15 (fun v Z' hq => ?_)
    obtain ⟨r9, M10, rfl, rfl, hq⟩ := hq
    have h := h r9 M10 hq
    dsimp only at h
    obtain ⟨g11, h⟩ := h
    refine a_if_eq (tgt := 46) hΓ g11 dX12_lost_18 (by decide) (fun c12 => ?_) (fun c12 => ?_)
    · rw [if_pos c12] at h
      refine a_ldc2_w hΓ gc_RX12_187 dX12_lost_46 ?_
      exact a_lret hΓ hr dX12_lost_49 ⟨_, _, rfl, rfl, h⟩
    · rw [if_neg c12] at h
      refine a_iload hΓ 5 dX12_lost_21 rfl ?_
      refine a_iconst hΓ dX12_lost_23 ?_
      refine a_iconst hΓ dX12_lost_24 ?_
      obtain ⟨P13, q14, h⟩ := h
      refine n_callS (av := [aI v5, aI 0, aI 1]) (st := []) hΓ (ct_wX12_in _ _ v5 0 1 M10 P13 q14) my_X12_in ml_RX12_3 rfl (Nat.le_trans (by decide) hh) (by decide) (Nat.le_of_ble_eq_true rfl) rfl dX12_lost_25 (fun v Z' hq => ?_)
      obtain ⟨r15, M16, rfl, rfl, hq⟩ := hq
      have h := h r15 M16 hq
      dsimp only at h
      obtain ⟨g17, h⟩ := h
      refine a_if_eq (tgt := 46) hΓ g17 dX12_lost_28 (by decide) (fun c18 => ?_) (fun c18 => ?_)
      · rw [if_pos c18] at h
        refine a_ldc2_w hΓ gc_RX12_187 dX12_lost_46 ?_
        exact a_lret hΓ hr dX12_lost_49 ⟨_, _, rfl, rfl, h⟩
      · rw [if_neg c18] at h
        refine a_aload_n hΓ 0 dX12_lost_31 rfl rfl ?_
        refine a_iload_n hΓ 1 dX12_lost_32 rfl rfl ?_
        refine a_aload_n hΓ 0 dX12_lost_33 rfl rfl ?_
        refine a_iload_n hΓ 1 dX12_lost_34 rfl rfl ?_
        refine a_iload hΓ 4 dX12_lost_35 rfl ?_
        obtain ⟨P19, q20, h⟩ := h
        refine n_callV (c := 102) (av := [aI v1, aI v4]) (st := [aI v1, aR 102]) hΓ (ct_wX12_counting _ _ v1 v4 M16 P19 q20) my_X12_counting ml_RX12_177 ni_X12_counting kd_102 rfl lz_102 rfl (Nat.le_trans (by decide) hh) (by decide) (Nat.le_of_ble_eq_true rfl) rfl dX12_lost_37 (fun v Z' hq => ?_)
        obtain ⟨r21, M22, rfl, rfl, hq⟩ := hq
        have h := h r21 M22 hq
        dsimp only at h
        obtain ⟨P23, q24, h⟩ := h
        refine n_callV (c := 102) (av := [aI v1, aI r21]) (st := []) hΓ (ct_wX12_spans _ _ v1 r21 M22 P23 q24) my_X12_spans ml_RX12_180 ni_X12_spans kd_102 rfl lz_102 rfl (Nat.le_trans (by decide) hh) (by decide) (Nat.le_of_ble_eq_true rfl) rfl dX12_lost_40 (fun v Z' hq => ?_)
        obtain ⟨r25, M26, rfl, rfl, hq⟩ := hq
        have h := h r25 M26 hq
        dsimp only at h
        obtain ⟨g27, h⟩ := h
        refine a_if_ne (tgt := 50) hΓ g27 dX12_lost_43 (by decide) (fun c28 => ?_) (fun c28 => ?_)
        · rw [if_pos c28] at h
          refine a_ldc2_w hΓ gc_RX12_187 dX12_lost_46 ?_
          exact a_lret hΓ hr dX12_lost_49 ⟨_, _, rfl, rfl, h⟩
        · rw [if_neg c28] at h
          refine a_lconst (x := 0) hΓ dX12_lost_50 rfl ?_
          refine a_lstore (ls' := [(6, aL 0), (0, aR 102), (1, aI v1), (2, aI v2), (3, aI v3), (4, aI v4), (5, aI v5)]) hΓ dX12_lost_51 (by decide) rfl ?_
          refine a_iload_n hΓ 3 dX12_lost_53 rfl rfl ?_
          refine a_istore (ls' := [(8, aI v2), (6, aL 0), (0, aR 102), (1, aI v1), (2, aI v2), (3, aI v3), (4, aI v4), (5, aI v5)]) hΓ dX12_lost_54 (by decide) rfl ?_
          refine a_sub (ls' := [(0, aR 102), (1, aI v1), (3, aI v3), (5, aI v5), (6, aL 0), (8, aI v2)]) [2, 3, 5, 7, 1, 0] rfl ?_
          obtain ⟨f29, h⟩ := h
          exact s_wX12_lost_56 hΓ (Nat.le_trans (by decide) hh) hr  f29 0 v2 M26 h
theorem ct_wX12_lost (l : Launch) (g : Gp) (v1 : Int) (v2 : Int) (v3 : Int) (v4 : Int) (v5 : Int) (M : Mm) (Q : Int → Mm → Prop) (h : wX12_lost v1 v2 v3 v4 v5 M Q) : Ct l g yX12_lost cX12_lost 9 (some .long) 10 0 0 [aR 102, aI v1, aI v2, aI v3, aI v4, aI v5] (NC, RF, M) (QL Q) :=
  ct_of (by decide) (Nat.le_of_ble_eq_true rfl) (fun Γ hg hl hr _ hΓ => by subst hg; subst hl; exact s_wX12_lost hΓ (by decide) hr v1 v2 v3 v4 v5 M h)
