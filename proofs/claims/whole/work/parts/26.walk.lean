/-! ===== printed by tools/gen.py ===== -/
def wX11_call (v1 : Int) (M : Mm) (Q : Int → Mm → Prop) : Prop :=
    Bd (wX11_isDay v1 M) (fun r3 M4 =>
    (inR r3) ∧
    (if r3 = 0 then
      Bd (wX11_refuse (-1) M4) (fun r9 M10 =>
      Q r9 M10)
    else
      (0 ≤ v1 ∧ v1 < 120) ∧
      (inR (M4 101 v1)) ∧
      (if (M4 101 v1) = 0 then
        (inR (M4 100 1)) ∧
        (if (M4 100 1) < 7 then
          Bv (wX7_append v1 M4) (fun M19 =>
          Bd (wX11_accept (M19 100 1) M19) (fun r22 M23 =>
          Q r22 M23))
        else
          Bd (wX11_refuse (-5) M4) (fun r26 M27 =>
          Q r26 M27))
      else
        Bd (wX11_refuse (-4) M4) (fun r30 M31 =>
        Q r30 M31))))
set_option maxHeartbeats 4000000 in
theorem s_wX11_call {Γ : Cx} {h : Nat} (hΓ : Ok Γ cX11_call RX11 2 h 0 0) (hh : 3 ≤ h) (hr : (cxm Γ).sig.returnType = (some .int)) {Q : Int → Mm → Prop} (v1 : Int) (M : Mm) (h : wX11_call v1 M Q) : Wa Γ 2 (Kf Γ (QI Q) 0 0) 0 0 0 [(0, aR 0), (1, aI v1)] [] (NC, RF, M) := by
  unfold wX11_call at h
  refine a_iload_n hΓ 1 dX11_call_0 rfl rfl ?_
  obtain ⟨P1, q2, h⟩ := h
  refine n_callS (av := [aI v1]) (st := []) hΓ (ct_wX11_isDay _ _ v1 M P1 q2) my_X11_isDay ml_RX11_102 rfl (Nat.le_trans (by decide) hh) (by decide) (Nat.le_of_ble_eq_true rfl) rfl dX11_call_1 (fun v Z' hq => ?_)
  obtain ⟨r3, M4, rfl, rfl, hq⟩ := hq
  have h := h r3 M4 hq
  dsimp only at h
  obtain ⟨g5, h⟩ := h
  refine a_if_ne (tgt := 13) hΓ g5 dX11_call_4 (by decide) (fun c6 => ?_) (fun c6 => ?_)
  · rw [if_pos c6] at h
    refine a_aload_n hΓ 0 dX11_call_7 rfl rfl ?_
    refine a_iconst hΓ dX11_call_8 ?_
    obtain ⟨P7, q8, h⟩ := h
    refine n_callV (c := 0) (av := [aI (-1)]) (st := []) hΓ (ct_wX11_refuse _ _ (-1) M4 P7 q8) my_X11_refuse ml_RX11_83 ni_X11_refuse kd_0 rfl lz_0 rfl (Nat.le_trans (by decide) hh) (by decide) (Nat.le_of_ble_eq_true rfl) rfl dX11_call_9 (fun v Z' hq => ?_)
    obtain ⟨r9, M10, rfl, rfl, hq⟩ := hq
    have h := h r9 M10 hq
    dsimp only at h
    exact a_iret hΓ hr dX11_call_12 ⟨_, _, rfl, rfl, h⟩
  · rw [if_neg c6] at h
    refine a_aload_n hΓ 0 dX11_call_13 rfl rfl ?_
    refine n_getR hΓ fl_RX11_75 cl_11 kd_0 lz_0 dX11_call_14 ft_11_9 rf_0_9 ?_
    refine n_getR hΓ fl_RX11_291 cl_7 kd_100 lz_100 dX11_call_17 ft_7_2 rf_100_2 ?_
    refine a_iload_n hΓ 1 dX11_call_20 rfl rfl ?_
    obtain ⟨g11, h⟩ := h
    refine n_iald (x := (M4 101 v1)) hΓ dX11_call_21 kd_101 lz_101 g11 rfl ?_
    obtain ⟨g12, h⟩ := h
    refine a_if_eq (tgt := 32) hΓ g12 dX11_call_22 (by decide) (fun c13 => ?_) (fun c13 => ?_)
    · rw [if_pos c13] at h
      refine a_aload_n hΓ 0 dX11_call_32 rfl rfl ?_
      refine n_getR hΓ fl_RX11_75 cl_11 kd_0 lz_0 dX11_call_33 ft_11_9 rf_0_9 ?_
      refine n_getI (x := (M4 100 1)) hΓ fl_RX11_294 cl_7 kd_100 lz_100 dX11_call_36 (Or.inl ft_7_1) rfl ?_
      refine a_bipush hΓ dX11_call_39 (by decide) ?_
      obtain ⟨g14, h⟩ := h
      refine a_icmp_lt (tgt := 51) hΓ g14 (inRl (by decide)) dX11_call_41 (by decide) (fun c15 => ?_) (fun c15 => ?_)
      · rw [if_pos c15] at h
        refine a_aload_n hΓ 0 dX11_call_51 rfl rfl ?_
        refine n_getR hΓ fl_RX11_75 cl_11 kd_0 lz_0 dX11_call_52 ft_11_9 rf_0_9 ?_
        refine a_iload_n hΓ 1 dX11_call_55 rfl rfl ?_
        obtain ⟨P16, q17, h⟩ := h
        refine n_callV (c := 100) (av := [aI v1]) (st := []) hΓ (ct_wX7_append _ _ v1 M4 P16 q17) my_X7_append ml_RX11_295 ni_X7_append kd_100 rfl lz_100 rfl (Nat.le_trans (by decide) hh) (by decide) (Nat.le_of_ble_eq_true rfl) rfl dX11_call_56 (fun v Z' hq => ?_)
        obtain ⟨M19, rfl, rfl, hq⟩ := hq
        have h := h M19 hq
        dsimp only at h
        refine a_aload_n hΓ 0 dX11_call_59 rfl rfl ?_
        refine a_aload_n hΓ 0 dX11_call_60 rfl rfl ?_
        refine n_getR hΓ fl_RX11_75 cl_11 kd_0 lz_0 dX11_call_61 ft_11_9 rf_0_9 ?_
        refine n_getI (x := (M19 100 1)) hΓ fl_RX11_294 cl_7 kd_100 lz_100 dX11_call_64 (Or.inl ft_7_1) rfl ?_
        obtain ⟨P20, q21, h⟩ := h
        refine n_callV (c := 0) (av := [aI (M19 100 1)]) (st := []) hΓ (ct_wX11_accept _ _ (M19 100 1) M19 P20 q21) my_X11_accept ml_RX11_91 ni_X11_accept kd_0 rfl lz_0 rfl (Nat.le_trans (by decide) hh) (by decide) (Nat.le_of_ble_eq_true rfl) rfl dX11_call_67 (fun v Z' hq => ?_)
        obtain ⟨r22, M23, rfl, rfl, hq⟩ := hq
        have h := h r22 M23 hq
        dsimp only at h
        exact a_iret hΓ hr dX11_call_70 ⟨_, _, rfl, rfl, h⟩
      · rw [if_neg c15] at h
        refine a_aload_n hΓ 0 dX11_call_44 rfl rfl ?_
        refine a_bipush hΓ dX11_call_45 (by decide) ?_
        obtain ⟨P24, q25, h⟩ := h
        refine n_callV (c := 0) (av := [aI (-5)]) (st := []) hΓ (ct_wX11_refuse _ _ (-5) M4 P24 q25) my_X11_refuse ml_RX11_83 ni_X11_refuse kd_0 rfl lz_0 rfl (Nat.le_trans (by decide) hh) (by decide) (Nat.le_of_ble_eq_true rfl) rfl dX11_call_47 (fun v Z' hq => ?_)
        obtain ⟨r26, M27, rfl, rfl, hq⟩ := hq
        have h := h r26 M27 hq
        dsimp only at h
        exact a_iret hΓ hr dX11_call_50 ⟨_, _, rfl, rfl, h⟩
    · rw [if_neg c13] at h
      refine a_aload_n hΓ 0 dX11_call_25 rfl rfl ?_
      refine a_bipush hΓ dX11_call_26 (by decide) ?_
      obtain ⟨P28, q29, h⟩ := h
      refine n_callV (c := 0) (av := [aI (-4)]) (st := []) hΓ (ct_wX11_refuse _ _ (-4) M4 P28 q29) my_X11_refuse ml_RX11_83 ni_X11_refuse kd_0 rfl lz_0 rfl (Nat.le_trans (by decide) hh) (by decide) (Nat.le_of_ble_eq_true rfl) rfl dX11_call_28 (fun v Z' hq => ?_)
      obtain ⟨r30, M31, rfl, rfl, hq⟩ := hq
      have h := h r30 M31 hq
      dsimp only at h
      exact a_iret hΓ hr dX11_call_31 ⟨_, _, rfl, rfl, h⟩
theorem ct_wX11_call (l : Launch) (g : Gp) (v1 : Int) (M : Mm) (Q : Int → Mm → Prop) (h : wX11_call v1 M Q) : Ct l g yX11_call cX11_call 2 (some .int) 3 0 0 [aR 0, aI v1] (NC, RF, M) (QI Q) :=
  ct_of (by decide) (Nat.le_of_ble_eq_true rfl) (fun Γ hg hl hr _ hΓ => by subst hg; subst hl; exact s_wX11_call hΓ (by decide) hr v1 M h)
def wX7_drop_7 (Q : Mm → Prop) : Nat → Int → Mm → Prop
  | 0, _, _ => False
  | f + 1, v1, M => (inR v1) ∧
    (if v1 < 120 then
      (0 ≤ v1 ∧ v1 < 120) ∧
      (wX7_drop_7 Q f) (v1 + 1) (up M 101 v1 0)
    else
      Q M)
set_option maxHeartbeats 4000000 in
theorem s_wX7_drop_7 {Γ : Cx} {h : Nat} (hΓ : Ok Γ cX7_drop RX7 2 h 0 0) (hh : 1 ≤ h) (hr : (cxm Γ).sig.returnType = none) {Q : Mm → Prop}   : ∀ (f : Nat) (v1 : Int) (M : Mm), wX7_drop_7 Q  f v1 M → Wa Γ 2 (Kf Γ (QV Q) 0 0) 0 0 7 [(0, aR 100), (1, aI v1)] [] (NC, RF, M) := by
  intro f
  induction f with
  | zero => intro v1 M h; exact h.elim
  | succ f ih =>
    intro v1 M h
    unfold wX7_drop_7 at h
    refine a_iload_n hΓ 1 dX7_drop_7 rfl rfl ?_
    refine a_bipush hΓ dX7_drop_8 (by decide) ?_
    obtain ⟨g1, h⟩ := h
    refine a_icmp_ge (tgt := 26) hΓ g1 (inRl (by decide)) dX7_drop_10 (by decide) (fun c2 => ?_) (fun c2 => ?_)
    · rw [if_pos c2] at h
      refine a_aload_n hΓ 0 dX7_drop_13 rfl rfl ?_
      refine n_getR hΓ fl_RX7_9 cl_7 kd_100 lz_100 dX7_drop_14 ft_7_2 rf_100_2 ?_
      refine a_iload_n hΓ 1 dX7_drop_17 rfl rfl ?_
      refine a_iconst hΓ dX7_drop_18 ?_
      obtain ⟨g3, h⟩ := h
      refine a_iast hΓ dX7_drop_19 kd_101 lz_101 g3 ?_
      refine a_iinc (ls' := [(1, aI (v1 + 1)), (0, aR 100)]) hΓ 1 dX7_drop_20 rfl (by decide) rfl ?_
      refine a_goto (tgt := 7) hΓ dX7_drop_23 (by decide) ?_
      refine a_sub (ls' := [(0, aR 100), (1, aI (v1 + 1))]) [1, 0] rfl ?_
      exact ih (v1 + 1) (up M 101 v1 0) h
    · rw [if_neg c2] at h
      exact a_vret hΓ hr dX7_drop_26 ⟨_, rfl, rfl, h⟩
def wX7_drop  (M : Mm) (Q : Mm → Prop) : Prop :=
    ∃ n, wX7_drop_7 Q n 0 (up M 100 1 0)
set_option maxHeartbeats 4000000 in
theorem s_wX7_drop {Γ : Cx} {h : Nat} (hΓ : Ok Γ cX7_drop RX7 2 h 0 0) (hh : 1 ≤ h) (hr : (cxm Γ).sig.returnType = none) {Q : Mm → Prop}  (M : Mm) (h : wX7_drop  M Q) : Wa Γ 2 (Kf Γ (QV Q) 0 0) 0 0 0 [(0, aR 100)] [] (NC, RF, M) := by
  unfold wX7_drop at h
  refine a_aload_n hΓ 0 dX7_drop_0 rfl rfl ?_
  refine a_iconst hΓ dX7_drop_1 ?_
  refine n_putI (j := 1) hΓ fl_RX7_19 cl_7 nf_7_1 kd_100 lz_100 dX7_drop_2 (Or.inl ft_7_1) rfl ?_
  refine a_iconst hΓ dX7_drop_5 ?_
  refine a_istore_n (ls' := [(1, aI 0), (0, aR 100)]) hΓ dX7_drop_6 rfl (by decide) rfl ?_
  refine a_sub (ls' := [(0, aR 100), (1, aI 0)]) [1, 0] rfl ?_
  obtain ⟨f1, h⟩ := h
  exact s_wX7_drop_7 hΓ (Nat.le_trans (by decide) hh) hr  f1 0 (up M 100 1 0) h
theorem ct_wX7_drop (l : Launch) (g : Gp)  (M : Mm) (Q : Mm → Prop) (h : wX7_drop  M Q) : Ct l g yX7_drop cX7_drop 2 none 1 0 0 [aR 100] (NC, RF, M) (QV Q) :=
  ct_of (by decide) (Nat.le_of_ble_eq_true rfl) (fun Γ hg hl hr _ hΓ => by subst hg; subst hl; exact s_wX7_drop hΓ (by decide) hr  M h)
def wX11_clear  (M : Mm) (Q : Int → Mm → Prop) : Prop :=
    Bv (wX7_drop M) (fun M4 =>
    Q (M 100 1) M4)
set_option maxHeartbeats 4000000 in
theorem s_wX11_clear {Γ : Cx} {h : Nat} (hΓ : Ok Γ cX11_clear RX11 2 h 0 0) (hh : 2 ≤ h) (hr : (cxm Γ).sig.returnType = (some .int)) {Q : Int → Mm → Prop}  (M : Mm) (h : wX11_clear  M Q) : Wa Γ 2 (Kf Γ (QI Q) 0 0) 0 0 0 [(0, aR 0)] [] (NC, RF, M) := by
  unfold wX11_clear at h
  refine a_aload_n hΓ 0 dX11_clear_0 rfl rfl ?_
  refine n_getR hΓ fl_RX11_75 cl_11 kd_0 lz_0 dX11_clear_1 ft_11_9 rf_0_9 ?_
  refine n_getI (x := (M 100 1)) hΓ fl_RX11_294 cl_7 kd_100 lz_100 dX11_clear_4 (Or.inl ft_7_1) rfl ?_
  refine a_istore_n (ls' := [(1, aI (M 100 1)), (0, aR 0)]) hΓ dX11_clear_7 rfl (by decide) rfl ?_
  refine a_aload_n hΓ 1 dX11_clear_8 rfl rfl ?_
  refine n_getR hΓ fl_RX11_75 cl_11 kd_0 lz_0 dX11_clear_9 ft_11_9 rf_0_9 ?_
  obtain ⟨P1, q2, h⟩ := h
  refine n_callV (c := 100) (av := []) (st := []) hΓ (ct_wX7_drop _ _  M P1 q2) my_X7_drop ml_RX11_296 ni_X7_drop kd_100 rfl lz_100 rfl (Nat.le_trans (by decide) hh) (by decide) (Nat.le_of_ble_eq_true rfl) rfl dX11_clear_12 (fun v Z' hq => ?_)
  obtain ⟨M4, rfl, rfl, hq⟩ := hq
  have h := h M4 hq
  dsimp only at h
  refine a_iload_n hΓ 0 dX11_clear_15 rfl rfl ?_
  exact a_iret hΓ hr dX11_clear_16 ⟨_, _, rfl, rfl, h⟩
theorem ct_wX11_clear (l : Launch) (g : Gp)  (M : Mm) (Q : Int → Mm → Prop) (h : wX11_clear  M Q) : Ct l g yX11_clear cX11_clear 2 (some .int) 2 0 0 [aR 0] (NC, RF, M) (QI Q) :=
  ct_of (by decide) (Nat.le_of_ble_eq_true rfl) (fun Γ hg hl hr _ hΓ => by subst hg; subst hl; exact s_wX11_clear hΓ (by decide) hr  M h)
def wX7_worstCost_117 (Q : Int → Mm → Prop) (k26 : Int → Int → Int → Mm → Prop) (v1 : Int) (v2 : Int) (v3 : Int) (v5 : Int) (v7 : Int) (v8 : Int) (M : Mm) : Prop :=
    Bd (wX6_skinFuel v8 v7 M) (fun r3 M4 =>
    (inR r3) ∧
    (inR (M4 1 2)) ∧
    k26 (v5 + (r3 * (M4 1 2))) v7 (v8 + 1) M4)
set_option maxHeartbeats 4000000 in
theorem s_wX7_worstCost_117 {Γ : Cx} {h : Nat} (hΓ : Ok Γ cX7_worstCost RX7 9 h 0 0) (hh : 3 ≤ h) (hr : (cxm Γ).sig.returnType = (some .long)) {Q : Int → Mm → Prop} {v1 v2 v3 v5 v7 v8 : Int}  {k26 : Int → Int → Int → Mm → Prop} (hk26 : ∀ (v5 : Int) (v7 : Int) (v8 : Int) (M : Mm), k26 v5 v7 v8 M → Wa Γ 9 (Kf Γ (QL Q) 0 0) 0 0 26 [(0, aR 100), (1, aI v1), (2, aI v2), (3, aI v3), (4, aR 1), (5, aL v5), (7, aI v7), (8, aI v8)] [] (NC, RF, M)) (M : Mm) (h : wX7_worstCost_117 Q k26 v1 v2 v3 v5 v7 v8 M) : Wa Γ 9 (Kf Γ (QL Q) 0 0) 0 0 117 [(0, aR 100), (1, aI v1), (2, aI v2), (3, aI v3), (4, aR 1), (5, aL v5), (7, aI v7), (8, aI v8)] [] (NC, RF, M) := by
  unfold wX7_worstCost_117 at h
  refine a_lload hΓ 5 dX7_worstCost_117 rfl ?_
  refine a_aload_n hΓ 0 dX7_worstCost_119 rfl rfl ?_
  refine n_getR hΓ fl_RX7_15 cl_7 kd_100 lz_100 dX7_worstCost_120 ft_7_0 rf_100_0 ?_
  refine a_iload hΓ 7 dX7_worstCost_123 rfl ?_
  refine a_iload hΓ 6 dX7_worstCost_125 rfl ?_
  obtain ⟨P1, q2, h⟩ := h
  refine n_callV (c := 72) (av := [aI v8, aI v7]) (st := [aL v5]) hΓ (ct_wX6_skinFuel _ _ v8 v7 M P1 q2) my_X6_skinFuel ml_RX7_66 ni_X6_skinFuel kd_72 rfl lz_72 rfl (Nat.le_trans (by decide) hh) (by decide) (Nat.le_of_ble_eq_true rfl) rfl dX7_worstCost_127 (fun v Z' hq => ?_)
  obtain ⟨r3, M4, rfl, rfl, hq⟩ := hq
  have h := h r3 M4 hq
  dsimp only at h
  obtain ⟨g5, h⟩ := h
  refine a_i2l hΓ g5 dX7_worstCost_130 ?_
  refine a_aload hΓ 4 dX7_worstCost_131 rfl ?_
  refine n_getI (x := (M4 1 2)) hΓ fl_RX7_69 cl_0 kd_1 lz_1 dX7_worstCost_133 (Or.inl ft_0_2) rfl ?_
  obtain ⟨g6, h⟩ := h
  refine a_i2l hΓ g6 dX7_worstCost_136 ?_
  refine a_lmul hΓ dX7_worstCost_137 ?_
  refine a_ladd hΓ dX7_worstCost_138 ?_
  refine a_lstore (ls' := [(5, aL (v5 + (r3 * (M4 1 2)))), (0, aR 100), (1, aI v1), (2, aI v2), (3, aI v3), (4, aR 1), (7, aI v7), (8, aI v8)]) hΓ dX7_worstCost_139 (by decide) rfl ?_
  refine a_iinc (ls' := [(8, aI (v8 + 1)), (5, aL (v5 + (r3 * (M4 1 2)))), (0, aR 100), (1, aI v1), (2, aI v2), (3, aI v3), (4, aR 1), (7, aI v7)]) hΓ 7 dX7_worstCost_141 rfl (by decide) rfl ?_
  refine a_goto (tgt := 26) hΓ dX7_worstCost_144 (by decide) ?_
  refine a_sub (ls' := [(0, aR 100), (1, aI v1), (2, aI v2), (3, aI v3), (4, aR 1), (5, aL (v5 + (r3 * (M4 1 2)))), (7, aI v7), (8, aI (v8 + 1))]) [2, 3, 4, 5, 6, 1, 7, 0] rfl ?_
  exact hk26 (v5 + (r3 * (M4 1 2))) v7 (v8 + 1) M4 h
def wX7_worstCost_91 (Q : Int → Mm → Prop) (k26 : Int → Int → Int → Mm → Prop) (v1 : Int) (v2 : Int) (v3 : Int) (v5 : Int) (v7 : Int) (v8 : Int) (M : Mm) : Prop :=
    (0 ≤ v8 ∧ v8 < 120) ∧
    (if (landI (M 101 v8) v1) = 0 then
      wX7_worstCost_117 Q k26 v1 v2 v3 v5 v7 v8 M
    else
      (inR (M 1 3)) ∧
      wX7_worstCost_117 Q k26 v1 v2 v3 (v5 + (M 1 3)) 0 v8 M)
set_option maxHeartbeats 4000000 in
theorem s_wX7_worstCost_91 {Γ : Cx} {h : Nat} (hΓ : Ok Γ cX7_worstCost RX7 9 h 0 0) (hh : 3 ≤ h) (hr : (cxm Γ).sig.returnType = (some .long)) {Q : Int → Mm → Prop} {v1 v2 v3 v5 v7 v8 : Int}  {k26 : Int → Int → Int → Mm → Prop} (hk26 : ∀ (v5 : Int) (v7 : Int) (v8 : Int) (M : Mm), k26 v5 v7 v8 M → Wa Γ 9 (Kf Γ (QL Q) 0 0) 0 0 26 [(0, aR 100), (1, aI v1), (2, aI v2), (3, aI v3), (4, aR 1), (5, aL v5), (7, aI v7), (8, aI v8)] [] (NC, RF, M)) (M : Mm) (h : wX7_worstCost_91 Q k26 v1 v2 v3 v5 v7 v8 M) : Wa Γ 9 (Kf Γ (QL Q) 0 0) 0 0 91 [(0, aR 100), (1, aI v1), (2, aI v2), (3, aI v3), (4, aR 1), (5, aL v5), (7, aI v7), (8, aI v8)] [] (NC, RF, M) := by
  unfold wX7_worstCost_91 at h
  refine a_aload_n hΓ 0 dX7_worstCost_91 rfl rfl ?_
  refine n_getR hΓ fl_RX7_9 cl_7 kd_100 lz_100 dX7_worstCost_92 ft_7_2 rf_100_2 ?_
  refine a_iload hΓ 7 dX7_worstCost_95 rfl ?_
  obtain ⟨g1, h⟩ := h
  refine n_iald (x := (M 101 v8)) hΓ dX7_worstCost_97 kd_101 lz_101 g1 rfl ?_
  refine a_iload_n hΓ 1 dX7_worstCost_98 rfl rfl ?_
  refine a_iand hΓ dX7_worstCost_99 ?_
  refine a_if_eq (tgt := 117) hΓ (inR_land _ _) dX7_worstCost_100 (by decide) (fun c2 => ?_) (fun c2 => ?_)
  · rw [if_pos c2] at h
    exact s_wX7_worstCost_117 hΓ (Nat.le_trans (by decide) hh) hr hk26 M h
  · rw [if_neg c2] at h
    refine a_iconst hΓ dX7_worstCost_103 ?_
    refine a_istore (ls' := [(7, aI 0), (0, aR 100), (1, aI v1), (2, aI v2), (3, aI v3), (4, aR 1), (5, aL v5), (8, aI v8)]) hΓ dX7_worstCost_104 (by decide) rfl ?_
    refine a_lload hΓ 6 dX7_worstCost_106 rfl ?_
    refine a_aload hΓ 5 dX7_worstCost_108 rfl ?_
    refine n_getI (x := (M 1 3)) hΓ fl_RX7_61 cl_0 kd_1 lz_1 dX7_worstCost_110 (Or.inl ft_0_3) rfl ?_
    obtain ⟨g3, h⟩ := h
    refine a_i2l hΓ g3 dX7_worstCost_113 ?_
    refine a_ladd hΓ dX7_worstCost_114 ?_
    refine a_lstore (ls' := [(5, aL (v5 + (M 1 3))), (7, aI 0), (0, aR 100), (1, aI v1), (2, aI v2), (3, aI v3), (4, aR 1), (8, aI v8)]) hΓ dX7_worstCost_115 (by decide) rfl ?_
    refine a_sub (ls' := [(0, aR 100), (1, aI v1), (2, aI v2), (3, aI v3), (4, aR 1), (5, aL (v5 + (M 1 3))), (7, aI 0), (8, aI v8)]) [2, 3, 4, 5, 6, 0, 1, 7] rfl ?_
    exact s_wX7_worstCost_117 hΓ (Nat.le_trans (by decide) hh) hr hk26 M h
def wX7_worstCost_26 (Q : Int → Mm → Prop) (v1 : Int) (v2 : Int) (v3 : Int) : Nat → Int → Int → Int → Mm → Prop
  | 0, _, _, _, _ => False
  | f + 1, v5, v7, v8, M => (inR v8) ∧
    (inR v3) ∧
    (if v8 ≤ v3 then
      (inR v2) ∧
      (if v8 ≤ v2 then
        wX7_worstCost_91 Q (wX7_worstCost_26 Q v1 v2 v3 f) v1 v2 v3 v5 v7 v8 M
      else
        (0 ≤ v8 ∧ v8 < 120) ∧
        (inR (M 78 v8)) ∧
        (if (M 78 v8) = 0 then
          (0 ≤ (v8 - 1) ∧ (v8 - 1) < 120) ∧
          Bd (wJ9_max_7cf53 (v7 + (M 76 (v8 - 1))) 0 M) (fun r12 M13 =>
          Bd (wJ9_min_7cf53 r12 1000 M13) (fun r16 M17 =>
          wX7_worstCost_91 Q (wX7_worstCost_26 Q v1 v2 v3 f) v1 v2 v3 v5 r16 v8 M17))
        else
          wX7_worstCost_91 Q (wX7_worstCost_26 Q v1 v2 v3 f) v1 v2 v3 v5 (M 77 v8) v8 M))
    else
      Q v5 M)
set_option maxHeartbeats 4000000 in
theorem s_wX7_worstCost_26 {Γ : Cx} {h : Nat} (hΓ : Ok Γ cX7_worstCost RX7 9 h 0 0) (hh : 3 ≤ h) (hr : (cxm Γ).sig.returnType = (some .long)) {Q : Int → Mm → Prop} {v1 v2 v3 : Int}   : ∀ (f : Nat) (v5 : Int) (v7 : Int) (v8 : Int) (M : Mm), wX7_worstCost_26 Q v1 v2 v3 f v5 v7 v8 M → Wa Γ 9 (Kf Γ (QL Q) 0 0) 0 0 26 [(0, aR 100), (1, aI v1), (2, aI v2), (3, aI v3), (4, aR 1), (5, aL v5), (7, aI v7), (8, aI v8)] [] (NC, RF, M) := by
  intro f
  induction f with
  | zero => intro v5 v7 v8 M h; exact h.elim
  | succ f ih =>
    intro v5 v7 v8 M h
    unfold wX7_worstCost_26 at h
    refine a_iload hΓ 7 dX7_worstCost_26 rfl ?_
    refine a_iload_n hΓ 3 dX7_worstCost_28 rfl rfl ?_
    obtain ⟨g1, h⟩ := h
    obtain ⟨g2, h⟩ := h
    refine a_icmp_gt (tgt := 147) hΓ g1 g2 dX7_worstCost_29 (by decide) (fun c3 => ?_) (fun c3 => ?_)
    · rw [if_pos c3] at h
      refine a_iload hΓ 7 dX7_worstCost_32 rfl ?_
      refine a_iload_n hΓ 2 dX7_worstCost_34 rfl rfl ?_
      obtain ⟨g4, h⟩ := h
      refine a_icmp_le (tgt := 91) hΓ g1 g4 dX7_worstCost_35 (by decide) (fun c5 => ?_) (fun c5 => ?_)
      · rw [if_pos c5] at h
        exact s_wX7_worstCost_91 hΓ (Nat.le_trans (by decide) hh) hr ih M h
      · rw [if_neg c5] at h
        refine a_aload_n hΓ 0 dX7_worstCost_38 rfl rfl ?_
        refine n_getR hΓ fl_RX7_15 cl_7 kd_100 lz_100 dX7_worstCost_39 ft_7_0 rf_100_0 ?_
        refine n_getR hΓ fl_RX7_42 cl_6 kd_72 lz_72 dX7_worstCost_42 ft_6_7 rf_72_7 ?_
        refine a_iload hΓ 7 dX7_worstCost_45 rfl ?_
        obtain ⟨g6, h⟩ := h
        refine n_bald (x := (M 78 v8)) hΓ dX7_worstCost_47 kd_78 (Or.inl rfl) lz_78 g6 rfl ?_
        obtain ⟨g7, h⟩ := h
        refine a_if_eq (tgt := 64) hΓ g7 dX7_worstCost_48 (by decide) (fun c8 => ?_) (fun c8 => ?_)
        · rw [if_pos c8] at h
          refine a_iload hΓ 6 dX7_worstCost_64 rfl ?_
          refine a_aload_n hΓ 0 dX7_worstCost_66 rfl rfl ?_
          refine n_getR hΓ fl_RX7_15 cl_7 kd_100 lz_100 dX7_worstCost_67 ft_7_0 rf_100_0 ?_
          refine n_getR hΓ fl_RX7_49 cl_6 kd_72 lz_72 dX7_worstCost_70 ft_6_5 rf_72_5 ?_
          refine a_iload hΓ 7 dX7_worstCost_73 rfl ?_
          refine a_iconst hΓ dX7_worstCost_75 ?_
          refine a_isub hΓ dX7_worstCost_76 ?_
          obtain ⟨g9, h⟩ := h
          refine n_iald (x := (M 76 (v8 - 1))) hΓ dX7_worstCost_77 kd_76 lz_76 g9 rfl ?_
          refine a_iadd hΓ dX7_worstCost_78 ?_
          refine a_iconst hΓ dX7_worstCost_79 ?_
          obtain ⟨P10, q11, h⟩ := h
          refine n_callS (av := [aI (v7 + (M 76 (v8 - 1))), aI 0]) (st := []) hΓ (ct_wJ9_max_7cf53 _ _ (v7 + (M 76 (v8 - 1))) 0 M P10 q11) my_J9_max_7cf53 ml_RX7_52 rfl (Nat.le_trans (by decide) hh) (by decide) (Nat.le_of_ble_eq_true rfl) rfl dX7_worstCost_80 (fun v Z' hq => ?_)
          obtain ⟨r12, M13, rfl, rfl, hq⟩ := hq
          have h := h r12 M13 hq
          dsimp only at h
          refine a_sipush hΓ dX7_worstCost_83 (by decide) ?_
          obtain ⟨P14, q15, h⟩ := h
          refine n_callS (av := [aI r12, aI 1000]) (st := []) hΓ (ct_wJ9_min_7cf53 _ _ r12 1000 M13 P14 q15) my_J9_min_7cf53 ml_RX7_58 rfl (Nat.le_trans (by decide) hh) (by decide) (Nat.le_of_ble_eq_true rfl) rfl dX7_worstCost_86 (fun v Z' hq => ?_)
          obtain ⟨r16, M17, rfl, rfl, hq⟩ := hq
          have h := h r16 M17 hq
          dsimp only at h
          refine a_istore (ls' := [(7, aI r16), (0, aR 100), (1, aI v1), (2, aI v2), (3, aI v3), (4, aR 1), (5, aL v5), (8, aI v8)]) hΓ dX7_worstCost_89 (by decide) rfl ?_
          refine a_sub (ls' := [(0, aR 100), (1, aI v1), (2, aI v2), (3, aI v3), (4, aR 1), (5, aL v5), (7, aI r16), (8, aI v8)]) [1, 2, 3, 4, 5, 6, 0, 7] rfl ?_
          exact s_wX7_worstCost_91 hΓ (Nat.le_trans (by decide) hh) hr ih M17 h
        · rw [if_neg c8] at h
          refine a_aload_n hΓ 0 dX7_worstCost_51 rfl rfl ?_
          refine n_getR hΓ fl_RX7_15 cl_7 kd_100 lz_100 dX7_worstCost_52 ft_7_0 rf_100_0 ?_
          refine n_getR hΓ fl_RX7_46 cl_6 kd_72 lz_72 dX7_worstCost_55 ft_6_6 rf_72_6 ?_
          refine a_iload hΓ 7 dX7_worstCost_58 rfl ?_
          refine n_iald (x := (M 77 v8)) hΓ dX7_worstCost_60 kd_77 lz_77 g6 rfl ?_
          refine a_goto (tgt := 89) hΓ dX7_worstCost_61 (by decide) ?_
          refine a_istore (ls' := [(7, aI (M 77 v8)), (0, aR 100), (1, aI v1), (2, aI v2), (3, aI v3), (4, aR 1), (5, aL v5), (8, aI v8)]) hΓ dX7_worstCost_89 (by decide) rfl ?_
          refine a_sub (ls' := [(0, aR 100), (1, aI v1), (2, aI v2), (3, aI v3), (4, aR 1), (5, aL v5), (7, aI (M 77 v8)), (8, aI v8)]) [1, 2, 3, 4, 5, 6, 0, 7] rfl ?_
          exact s_wX7_worstCost_91 hΓ (Nat.le_trans (by decide) hh) hr ih M h
    · rw [if_neg c3] at h
      refine a_lload hΓ 5 dX7_worstCost_147 rfl ?_
      exact a_lret hΓ hr dX7_worstCost_149 ⟨_, _, rfl, rfl, h⟩
def wX7_worstCost (v1 : Int) (v2 : Int) (v3 : Int) (M : Mm) (Q : Int → Mm → Prop) : Prop :=
    (0 ≤ v2 ∧ v2 < 120) ∧
    ∃ n, wX7_worstCost_26 Q v1 v2 v3 n 0 (M 82 v2) v2 M
set_option maxHeartbeats 4000000 in
theorem s_wX7_worstCost {Γ : Cx} {h : Nat} (hΓ : Ok Γ cX7_worstCost RX7 9 h 0 0) (hh : 3 ≤ h) (hr : (cxm Γ).sig.returnType = (some .long)) {Q : Int → Mm → Prop} (v1 : Int) (v2 : Int) (v3 : Int) (M : Mm) (h : wX7_worstCost v1 v2 v3 M Q) : Wa Γ 9 (Kf Γ (QL Q) 0 0) 0 0 0 [(0, aR 100), (1, aI v1), (2, aI v2), (3, aI v3)] [] (NC, RF, M) := by
  unfold wX7_worstCost at h
  refine a_aload_n hΓ 0 dX7_worstCost_0 rfl rfl ?_
  refine n_getR hΓ fl_RX7_15 cl_7 kd_100 lz_100 dX7_worstCost_1 ft_7_0 rf_100_0 ?_
  refine n_getR hΓ fl_RX7_33 cl_6 kd_72 lz_72 dX7_worstCost_4 ft_6_0 rf_72_0 ?_
  refine a_astore (ls' := [(4, aR 1), (0, aR 100), (1, aI v1), (2, aI v2), (3, aI v3)]) hΓ dX7_worstCost_7 (by decide) rfl ?_
  refine a_lconst (x := 0) hΓ dX7_worstCost_9 rfl ?_
  refine a_lstore (ls' := [(5, aL 0), (4, aR 1), (0, aR 100), (1, aI v1), (2, aI v2), (3, aI v3)]) hΓ dX7_worstCost_10 (by decide) rfl ?_
  refine a_aload_n hΓ 2 dX7_worstCost_12 rfl rfl ?_
  refine n_getR hΓ fl_RX7_15 cl_7 kd_100 lz_100 dX7_worstCost_13 ft_7_0 rf_100_0 ?_
  refine n_getR hΓ fl_RX7_39 cl_6 kd_72 lz_72 dX7_worstCost_16 ft_6_12 rf_72_12 ?_
  refine a_iload_n hΓ 4 dX7_worstCost_19 rfl rfl ?_
  obtain ⟨g1, h⟩ := h
  refine n_iald (x := (M 82 v2)) hΓ dX7_worstCost_20 kd_82 lz_82 g1 rfl ?_
  refine a_istore (ls' := [(7, aI (M 82 v2)), (5, aL 0), (4, aR 1), (0, aR 100), (1, aI v1), (2, aI v2), (3, aI v3)]) hΓ dX7_worstCost_21 (by decide) rfl ?_
  refine a_iload_n hΓ 5 dX7_worstCost_23 rfl rfl ?_
  refine a_istore (ls' := [(8, aI v2), (7, aI (M 82 v2)), (5, aL 0), (4, aR 1), (0, aR 100), (1, aI v1), (2, aI v2), (3, aI v3)]) hΓ dX7_worstCost_24 (by decide) rfl ?_
  refine a_sub (ls' := [(0, aR 100), (1, aI v1), (2, aI v2), (3, aI v3), (4, aR 1), (5, aL 0), (7, aI (M 82 v2)), (8, aI v2)]) [4, 5, 6, 7, 3, 2, 1, 0] rfl ?_
  obtain ⟨f2, h⟩ := h
  exact s_wX7_worstCost_26 hΓ (Nat.le_trans (by decide) hh) hr  f2 0 (M 82 v2) v2 M h
theorem ct_wX7_worstCost (l : Launch) (g : Gp) (v1 : Int) (v2 : Int) (v3 : Int) (M : Mm) (Q : Int → Mm → Prop) (h : wX7_worstCost v1 v2 v3 M Q) : Ct l g yX7_worstCost cX7_worstCost 9 (some .long) 3 0 0 [aR 100, aI v1, aI v2, aI v3] (NC, RF, M) (QL Q) :=
  ct_of (by decide) (Nat.le_of_ble_eq_true rfl) (fun Γ hg hl hr _ hΓ => by subst hg; subst hl; exact s_wX7_worstCost hΓ (by decide) hr v1 v2 v3 M h)
def wX7_cheapest_52 (Q : Int → Mm → Prop) (k14 : Int → Int → Int → Mm → Prop) (v1 : Int) (v2 : Int) (v3 : Int) (v4 : Int) (v6 : Int) (v7 : Int) (s0 : Int) (M : Mm) : Prop :=
    (inR64 v7) ∧
    (inR64 v4) ∧
    (if (cmpI v7 v4) < 0 then
      k14 v6 v7 (v6 + 1) M
    else
      (if (cmpI v7 v4) = 0 then
        (inR s0) ∧
        (if s0 = 0 then
          k14 v3 v4 (v6 + 1) M
        else
          k14 v6 v7 (v6 + 1) M)
      else
        k14 v3 v4 (v6 + 1) M))
set_option maxHeartbeats 4000000 in
theorem s_wX7_cheapest_52 {Γ : Cx} {h : Nat} (hΓ : Ok Γ cX7_cheapest RX7 10 h 0 0) (hh : 4 ≤ h) (hr : (cxm Γ).sig.returnType = (some .int)) {Q : Int → Mm → Prop} {v1 v2 v3 v4 v6 v7 s0 : Int}  {k14 : Int → Int → Int → Mm → Prop} (hk14 : ∀ (v3 : Int) (v4 : Int) (v6 : Int) (M : Mm), k14 v3 v4 v6 M → Wa Γ 10 (Kf Γ (QI Q) 0 0) 0 0 14 [(0, aR 100), (1, aI v1), (2, aI v2), (3, aI v3), (4, aL v4), (6, aI v6)] [] (NC, RF, M)) (M : Mm) (h : wX7_cheapest_52 Q k14 v1 v2 v3 v4 v6 v7 s0 M) : Wa Γ 10 (Kf Γ (QI Q) 0 0) 0 0 52 [(0, aR 100), (1, aI v1), (2, aI v2), (3, aI v3), (4, aL v4), (6, aI v6), (7, aL v7)] [aI s0] (NC, RF, M) := by
  unfold wX7_cheapest_52 at h
  refine a_istore (ls' := [(9, aI s0), (0, aR 100), (1, aI v1), (2, aI v2), (3, aI v3), (4, aL v4), (6, aI v6), (7, aL v7)]) hΓ dX7_cheapest_52 (by decide) rfl ?_
  refine a_lload hΓ 7 dX7_cheapest_54 rfl ?_
  refine a_lload hΓ 5 dX7_cheapest_56 rfl ?_
  obtain ⟨g1, h⟩ := h
  obtain ⟨g2, h⟩ := h
  refine a_lcmp hΓ g1 g2 dX7_cheapest_58 ?_
  refine a_if_lt (tgt := 75) hΓ (inR_cmp _ _) dX7_cheapest_59 (by decide) (fun c3 => ?_) (fun c3 => ?_)
  · rw [if_pos c3] at h
    refine a_iload hΓ 6 dX7_cheapest_75 rfl ?_
    refine a_istore_n (ls' := [(3, aI v6), (9, aI s0), (0, aR 100), (1, aI v1), (2, aI v2), (4, aL v4), (6, aI v6), (7, aL v7)]) hΓ dX7_cheapest_77 rfl (by decide) rfl ?_
    refine a_lload hΓ 7 dX7_cheapest_78 rfl ?_
    refine a_lstore (ls' := [(4, aL v7), (3, aI v6), (9, aI s0), (0, aR 100), (1, aI v1), (2, aI v2), (6, aI v6), (7, aL v7)]) hΓ dX7_cheapest_80 (by decide) rfl ?_
    refine a_iinc (ls' := [(6, aI (v6 + 1)), (4, aL v7), (3, aI v6), (9, aI s0), (0, aR 100), (1, aI v1), (2, aI v2), (7, aL v7)]) hΓ 6 dX7_cheapest_82 rfl (by decide) rfl ?_
    refine a_goto (tgt := 14) hΓ dX7_cheapest_85 (by decide) ?_
    refine a_sub (ls' := [(0, aR 100), (1, aI v1), (2, aI v2), (3, aI v6), (4, aL v7), (6, aI (v6 + 1))]) [4, 5, 6, 2, 1, 0] rfl ?_
    exact hk14 v6 v7 (v6 + 1) M h
  · rw [if_neg c3] at h
    refine a_lload hΓ 7 dX7_cheapest_62 rfl ?_
    refine a_lload hΓ 5 dX7_cheapest_64 rfl ?_
    refine a_lcmp hΓ g1 g2 dX7_cheapest_66 ?_
    refine a_if_ne (tgt := 82) hΓ (inR_cmp _ _) dX7_cheapest_67 (by decide) (fun c4 => ?_) (fun c4 => ?_)
    · rw [if_pos c4] at h
      refine a_iload hΓ 0 dX7_cheapest_70 rfl ?_
      obtain ⟨g5, h⟩ := h
      refine a_if_eq (tgt := 82) hΓ g5 dX7_cheapest_72 (by decide) (fun c6 => ?_) (fun c6 => ?_)
      · rw [if_pos c6] at h
        refine a_iinc (ls' := [(6, aI (v6 + 1)), (9, aI s0), (0, aR 100), (1, aI v1), (2, aI v2), (3, aI v3), (4, aL v4), (7, aL v7)]) hΓ 6 dX7_cheapest_82 rfl (by decide) rfl ?_
        refine a_goto (tgt := 14) hΓ dX7_cheapest_85 (by decide) ?_
        refine a_sub (ls' := [(0, aR 100), (1, aI v1), (2, aI v2), (3, aI v3), (4, aL v4), (6, aI (v6 + 1))]) [2, 3, 4, 5, 6, 0] rfl ?_
        exact hk14 v3 v4 (v6 + 1) M h
      · rw [if_neg c6] at h
        refine a_iload hΓ 6 dX7_cheapest_75 rfl ?_
        refine a_istore_n (ls' := [(3, aI v6), (9, aI s0), (0, aR 100), (1, aI v1), (2, aI v2), (4, aL v4), (6, aI v6), (7, aL v7)]) hΓ dX7_cheapest_77 rfl (by decide) rfl ?_
        refine a_lload hΓ 7 dX7_cheapest_78 rfl ?_
        refine a_lstore (ls' := [(4, aL v7), (3, aI v6), (9, aI s0), (0, aR 100), (1, aI v1), (2, aI v2), (6, aI v6), (7, aL v7)]) hΓ dX7_cheapest_80 (by decide) rfl ?_
        refine a_iinc (ls' := [(6, aI (v6 + 1)), (4, aL v7), (3, aI v6), (9, aI s0), (0, aR 100), (1, aI v1), (2, aI v2), (7, aL v7)]) hΓ 6 dX7_cheapest_82 rfl (by decide) rfl ?_
        refine a_goto (tgt := 14) hΓ dX7_cheapest_85 (by decide) ?_
        refine a_sub (ls' := [(0, aR 100), (1, aI v1), (2, aI v2), (3, aI v6), (4, aL v7), (6, aI (v6 + 1))]) [4, 5, 6, 2, 1, 0] rfl ?_
        exact hk14 v6 v7 (v6 + 1) M h
    · rw [if_neg c4] at h
      refine a_iinc (ls' := [(6, aI (v6 + 1)), (9, aI s0), (0, aR 100), (1, aI v1), (2, aI v2), (3, aI v3), (4, aL v4), (7, aL v7)]) hΓ 6 dX7_cheapest_82 rfl (by decide) rfl ?_
      refine a_goto (tgt := 14) hΓ dX7_cheapest_85 (by decide) ?_
      refine a_sub (ls' := [(0, aR 100), (1, aI v1), (2, aI v2), (3, aI v3), (4, aL v4), (6, aI (v6 + 1))]) [2, 3, 4, 5, 6, 0] rfl ?_
      exact hk14 v3 v4 (v6 + 1) M h
def wX7_cheapest_14 (Q : Int → Mm → Prop) (v1 : Int) (v2 : Int) : Nat → Int → Int → Int → Mm → Prop
  | 0, _, _, _, _ => False
  | f + 1, v3, v4, v6, M => (inR v6) ∧
    (if v6 < (shlI 1 (M 100 1)) then
      Bd (wX7_worstCost v6 v1 v2 M) (fun r5 M6 =>
      Bd (wJ6_bitCount_0f7a4 v6 M6) (fun r9 M10 =>
      Bd (wJ6_bitCount_0f7a4 v3 M10) (fun r13 M14 =>
      (inR r9) ∧
      (inR r13) ∧
      (if r9 < r13 then
        wX7_cheapest_52 Q (wX7_cheapest_14 Q v1 v2 f) v1 v2 v3 v4 v6 r5 1 M14
      else
        wX7_cheapest_52 Q (wX7_cheapest_14 Q v1 v2 f) v1 v2 v3 v4 v6 r5 0 M14))))
    else
      Q v3 M)
set_option maxHeartbeats 4000000 in
theorem s_wX7_cheapest_14 {Γ : Cx} {h : Nat} (hΓ : Ok Γ cX7_cheapest RX7 10 h 0 0) (hh : 4 ≤ h) (hr : (cxm Γ).sig.returnType = (some .int)) {Q : Int → Mm → Prop} {v1 v2 : Int}   : ∀ (f : Nat) (v3 : Int) (v4 : Int) (v6 : Int) (M : Mm), wX7_cheapest_14 Q v1 v2 f v3 v4 v6 M → Wa Γ 10 (Kf Γ (QI Q) 0 0) 0 0 14 [(0, aR 100), (1, aI v1), (2, aI v2), (3, aI v3), (4, aL v4), (6, aI v6)] [] (NC, RF, M) := by
  intro f
  induction f with
  | zero => intro v3 v4 v6 M h; exact h.elim
  | succ f ih =>
    intro v3 v4 v6 M h
    unfold wX7_cheapest_14 at h
    refine a_iload hΓ 5 dX7_cheapest_14 rfl ?_
    refine a_iconst hΓ dX7_cheapest_16 ?_
    refine a_aload_n hΓ 0 dX7_cheapest_17 rfl rfl ?_
    refine n_getI (x := (M 100 1)) hΓ fl_RX7_19 cl_7 kd_100 lz_100 dX7_cheapest_18 (Or.inl ft_7_1) rfl ?_
    refine a_ishl hΓ dX7_cheapest_21 ?_
    obtain ⟨g1, h⟩ := h
    refine a_icmp_ge (tgt := 88) hΓ g1 (inR_shl _ _) dX7_cheapest_22 (by decide) (fun c2 => ?_) (fun c2 => ?_)
    · rw [if_pos c2] at h
      refine a_aload_n hΓ 0 dX7_cheapest_25 rfl rfl ?_
      refine a_iload hΓ 5 dX7_cheapest_26 rfl ?_
      refine a_iload_n hΓ 1 dX7_cheapest_28 rfl rfl ?_
      refine a_iload_n hΓ 2 dX7_cheapest_29 rfl rfl ?_
      obtain ⟨P3, q4, h⟩ := h
      refine n_callV (c := 100) (av := [aI v6, aI v1, aI v2]) (st := []) hΓ (ct_wX7_worstCost _ _ v6 v1 v2 M P3 q4) my_X7_worstCost ml_RX7_23 ni_X7_worstCost kd_100 rfl lz_100 rfl (Nat.le_trans (by decide) hh) (by decide) (Nat.le_of_ble_eq_true rfl) rfl dX7_cheapest_30 (fun v Z' hq => ?_)
      obtain ⟨r5, M6, rfl, rfl, hq⟩ := hq
      have h := h r5 M6 hq
      dsimp only at h
      refine a_lstore (ls' := [(7, aL r5), (0, aR 100), (1, aI v1), (2, aI v2), (3, aI v3), (4, aL v4), (6, aI v6)]) hΓ dX7_cheapest_33 (by decide) rfl ?_
      refine a_iload hΓ 6 dX7_cheapest_35 rfl ?_
      obtain ⟨P7, q8, h⟩ := h
      refine n_callS (av := [aI v6]) (st := []) hΓ (ct_wJ6_bitCount_0f7a4 _ _ v6 M6 P7 q8) my_J6_bitCount_0f7a4 ml_RX7_27 rfl (Nat.le_trans (by decide) hh) (by decide) (Nat.le_of_ble_eq_true rfl) rfl dX7_cheapest_37 (fun v Z' hq => ?_)
      obtain ⟨r9, M10, rfl, rfl, hq⟩ := hq
      have h := h r9 M10 hq
      dsimp only at h
      refine a_iload_n hΓ 4 dX7_cheapest_40 rfl rfl ?_
      obtain ⟨P11, q12, h⟩ := h
      refine n_callS (av := [aI v3]) (st := [aI r9]) hΓ (ct_wJ6_bitCount_0f7a4 _ _ v3 M10 P11 q12) my_J6_bitCount_0f7a4 ml_RX7_27 rfl (Nat.le_trans (by decide) hh) (by decide) (Nat.le_of_ble_eq_true rfl) rfl dX7_cheapest_41 (fun v Z' hq => ?_)
      obtain ⟨r13, M14, rfl, rfl, hq⟩ := hq
      have h := h r13 M14 hq
      dsimp only at h
      obtain ⟨g15, h⟩ := h
      obtain ⟨g16, h⟩ := h
      refine a_icmp_ge (tgt := 51) hΓ g15 g16 dX7_cheapest_44 (by decide) (fun c17 => ?_) (fun c17 => ?_)
      · rw [if_pos c17] at h
        refine a_iconst hΓ dX7_cheapest_47 ?_
        refine a_goto (tgt := 52) hΓ dX7_cheapest_48 (by decide) ?_
        refine a_sub (ls' := [(0, aR 100), (1, aI v1), (2, aI v2), (3, aI v3), (4, aL v4), (6, aI v6), (7, aL r5)]) [1, 2, 3, 4, 5, 6, 0] rfl ?_
        exact s_wX7_cheapest_52 hΓ (Nat.le_trans (by decide) hh) hr ih M14 h
      · rw [if_neg c17] at h
        refine a_iconst hΓ dX7_cheapest_51 ?_
        refine a_sub (ls' := [(0, aR 100), (1, aI v1), (2, aI v2), (3, aI v3), (4, aL v4), (6, aI v6), (7, aL r5)]) [1, 2, 3, 4, 5, 6, 0] rfl ?_
        exact s_wX7_cheapest_52 hΓ (Nat.le_trans (by decide) hh) hr ih M14 h
    · rw [if_neg c2] at h
      refine a_iload_n hΓ 3 dX7_cheapest_88 rfl rfl ?_
      exact a_iret hΓ hr dX7_cheapest_89 ⟨_, _, rfl, rfl, h⟩
def wX7_cheapest (v1 : Int) (v2 : Int) (M : Mm) (Q : Int → Mm → Prop) : Prop :=
    Bd (wX7_worstCost 0 v1 v2 M) (fun r3 M4 =>
    ∃ n, wX7_cheapest_14 Q v1 v2 n 0 r3 1 M4)
set_option maxHeartbeats 4000000 in
theorem s_wX7_cheapest {Γ : Cx} {h : Nat} (hΓ : Ok Γ cX7_cheapest RX7 10 h 0 0) (hh : 4 ≤ h) (hr : (cxm Γ).sig.returnType = (some .int)) {Q : Int → Mm → Prop} (v1 : Int) (v2 : Int) (M : Mm) (h : wX7_cheapest v1 v2 M Q) : Wa Γ 10 (Kf Γ (QI Q) 0 0) 0 0 0 [(0, aR 100), (1, aI v1), (2, aI v2)] [] (NC, RF, M) := by
  unfold wX7_cheapest at h
  refine a_iconst hΓ dX7_cheapest_0 ?_
  refine a_istore_n (ls' := [(3, aI 0), (0, aR 100), (1, aI v1), (2, aI v2)]) hΓ dX7_cheapest_1 rfl (by decide) rfl ?_
  refine a_aload_n hΓ 1 dX7_cheapest_2 rfl rfl ?_
  refine a_iconst hΓ dX7_cheapest_3 ?_
  refine a_iload_n hΓ 2 dX7_cheapest_4 rfl rfl ?_
  refine a_iload_n hΓ 3 dX7_cheapest_5 rfl rfl ?_
  obtain ⟨P1, q2, h⟩ := h
  refine n_callV (c := 100) (av := [aI 0, aI v1, aI v2]) (st := []) hΓ (ct_wX7_worstCost _ _ 0 v1 v2 M P1 q2) my_X7_worstCost ml_RX7_23 ni_X7_worstCost kd_100 rfl lz_100 rfl (Nat.le_trans (by decide) hh) (by decide) (Nat.le_of_ble_eq_true rfl) rfl dX7_cheapest_6 (fun v Z' hq => ?_)
  obtain ⟨r3, M4, rfl, rfl, hq⟩ := hq
  have h := h r3 M4 hq
  dsimp only at h
  refine a_lstore (ls' := [(4, aL r3), (3, aI 0), (0, aR 100), (1, aI v1), (2, aI v2)]) hΓ dX7_cheapest_9 (by decide) rfl ?_
  refine a_iconst hΓ dX7_cheapest_11 ?_
  refine a_istore (ls' := [(6, aI 1), (4, aL r3), (3, aI 0), (0, aR 100), (1, aI v1), (2, aI v2)]) hΓ dX7_cheapest_12 (by decide) rfl ?_
  refine a_sub (ls' := [(0, aR 100), (1, aI v1), (2, aI v2), (3, aI 0), (4, aL r3), (6, aI 1)]) [3, 4, 5, 2, 1, 0] rfl ?_
  obtain ⟨f5, h⟩ := h
  exact s_wX7_cheapest_14 hΓ (Nat.le_trans (by decide) hh) hr  f5 0 r3 1 M4 h
theorem ct_wX7_cheapest (l : Launch) (g : Gp) (v1 : Int) (v2 : Int) (M : Mm) (Q : Int → Mm → Prop) (h : wX7_cheapest v1 v2 M Q) : Ct l g yX7_cheapest cX7_cheapest 10 (some .int) 4 0 0 [aR 100, aI v1, aI v2] (NC, RF, M) (QI Q) :=
  ct_of (by decide) (Nat.le_of_ble_eq_true rfl) (fun Γ hg hl hr _ hΓ => by subst hg; subst hl; exact s_wX7_cheapest hΓ (by decide) hr v1 v2 M h)
def wX11_plan (v1 : Int) (v2 : Int) (v3 : Int) (v4 : Int) (M : Mm) (Q : Int → Mm → Prop) : Prop :=
    Bd (wX11_isStretch v2 v3 M) (fun r3 M4 =>
    (inR r3) ∧
    (if r3 = 0 then
      Q (-1) M4
    else
      Bd (wX11_bindAsKnown v1 v4 M4) (fun r9 M10 =>
      (inR r9) ∧
      (if r9 = 0 then
        Q (-1) M10
      else
        Bd (wX7_cheapest v2 v3 M10) (fun r15 M16 =>
        Q r15 M16)))))
set_option maxHeartbeats 4000000 in
theorem s_wX11_plan {Γ : Cx} {h : Nat} (hΓ : Ok Γ cX11_plan RX11 5 h 0 0) (hh : 6 ≤ h) (hr : (cxm Γ).sig.returnType = (some .int)) {Q : Int → Mm → Prop} (v1 : Int) (v2 : Int) (v3 : Int) (v4 : Int) (M : Mm) (h : wX11_plan v1 v2 v3 v4 M Q) : Wa Γ 5 (Kf Γ (QI Q) 0 0) 0 0 0 [(0, aR 0), (1, aI v1), (2, aI v2), (3, aI v3), (4, aI v4)] [] (NC, RF, M) := by
  unfold wX11_plan at h
  refine a_iload_n hΓ 2 dX11_plan_0 rfl rfl ?_
  refine a_iload_n hΓ 3 dX11_plan_1 rfl rfl ?_
  obtain ⟨P1, q2, h⟩ := h
  refine n_callS (av := [aI v2, aI v3]) (st := []) hΓ (ct_wX11_isStretch _ _ v2 v3 M P1 q2) my_X11_isStretch ml_RX11_209 rfl (Nat.le_trans (by decide) hh) (by decide) (Nat.le_of_ble_eq_true rfl) rfl dX11_plan_2 (fun v Z' hq => ?_)
  obtain ⟨r3, M4, rfl, rfl, hq⟩ := hq
  have h := h r3 M4 hq
  dsimp only at h
  obtain ⟨g5, h⟩ := h
  refine a_if_eq (tgt := 18) hΓ g5 dX11_plan_5 (by decide) (fun c6 => ?_) (fun c6 => ?_)
  · rw [if_pos c6] at h
    refine a_iconst hΓ dX11_plan_18 ?_
    exact a_iret hΓ hr dX11_plan_19 ⟨_, _, rfl, rfl, h⟩
  · rw [if_neg c6] at h
    refine a_aload_n hΓ 0 dX11_plan_8 rfl rfl ?_
    refine a_iload_n hΓ 1 dX11_plan_9 rfl rfl ?_
    refine a_iload hΓ 4 dX11_plan_10 rfl ?_
    obtain ⟨P7, q8, h⟩ := h
    refine n_callV (c := 0) (av := [aI v1, aI v4]) (st := []) hΓ (ct_wX11_bindAsKnown _ _ v1 v4 M4 P7 q8) my_X11_bindAsKnown ml_RX11_197 ni_X11_bindAsKnown kd_0 rfl lz_0 rfl (Nat.le_trans (by decide) hh) (by decide) (Nat.le_of_ble_eq_true rfl) rfl dX11_plan_12 (fun v Z' hq => ?_)
    obtain ⟨r9, M10, rfl, rfl, hq⟩ := hq
    have h := h r9 M10 hq
    dsimp only at h
    obtain ⟨g11, h⟩ := h
    refine a_if_ne (tgt := 20) hΓ g11 dX11_plan_15 (by decide) (fun c12 => ?_) (fun c12 => ?_)
    · rw [if_pos c12] at h
      refine a_iconst hΓ dX11_plan_18 ?_
      exact a_iret hΓ hr dX11_plan_19 ⟨_, _, rfl, rfl, h⟩
    · rw [if_neg c12] at h
      refine a_aload_n hΓ 0 dX11_plan_20 rfl rfl ?_
      refine n_getR hΓ fl_RX11_75 cl_11 kd_0 lz_0 dX11_plan_21 ft_11_9 rf_0_9 ?_
      refine a_iload_n hΓ 2 dX11_plan_24 rfl rfl ?_
      refine a_iload_n hΓ 3 dX11_plan_25 rfl rfl ?_
      obtain ⟨P13, q14, h⟩ := h
      refine n_callV (c := 100) (av := [aI v2, aI v3]) (st := []) hΓ (ct_wX7_cheapest _ _ v2 v3 M10 P13 q14) my_X7_cheapest ml_RX11_299 ni_X7_cheapest kd_100 rfl lz_100 rfl (Nat.le_trans (by decide) hh) (by decide) (Nat.le_of_ble_eq_true rfl) rfl dX11_plan_26 (fun v Z' hq => ?_)
      obtain ⟨r15, M16, rfl, rfl, hq⟩ := hq
      have h := h r15 M16 hq
      dsimp only at h
      exact a_iret hΓ hr dX11_plan_29 ⟨_, _, rfl, rfl, h⟩
theorem ct_wX11_plan (l : Launch) (g : Gp) (v1 : Int) (v2 : Int) (v3 : Int) (v4 : Int) (M : Mm) (Q : Int → Mm → Prop) (h : wX11_plan v1 v2 v3 v4 M Q) : Ct l g yX11_plan cX11_plan 5 (some .int) 6 0 0 [aR 0, aI v1, aI v2, aI v3, aI v4] (NC, RF, M) (QI Q) :=
  ct_of (by decide) (Nat.le_of_ble_eq_true rfl) (fun Γ hg hl hr _ hΓ => by subst hg; subst hl; exact s_wX11_plan hΓ (by decide) hr v1 v2 v3 v4 M h)
def wX11_judge (v1 : Int) (v2 : Int) (v3 : Int) (v4 : Int) (v5 : Int) (M : Mm) (Q : Int → Mm → Prop) : Prop :=
    Bd (wX11_within v2 0 ((shlI 1 (M 100 1)) - 1) M) (fun r3 M4 =>
    (inR r3) ∧
    (if r3 = 0 then
      Q (-1) M4
    else
      Bd (wX11_isStretch v3 v4 M4) (fun r9 M10 =>
      (inR r9) ∧
      (if r9 = 0 then
        Q (-1) M10
      else
        Bd (wX11_bindAsKnown v1 v5 M10) (fun r15 M16 =>
        (inR r15) ∧
        (if r15 = 0 then
          Q (-1) M16
        else
          Bd (wX7_worstCost v2 v3 v4 M16) (fun r21 M22 =>
          Q r21 M22)))))))
set_option maxHeartbeats 4000000 in
theorem s_wX11_judge {Γ : Cx} {h : Nat} (hΓ : Ok Γ cX11_judge RX11 6 h 0 0) (hh : 6 ≤ h) (hr : (cxm Γ).sig.returnType = (some .long)) {Q : Int → Mm → Prop} (v1 : Int) (v2 : Int) (v3 : Int) (v4 : Int) (v5 : Int) (M : Mm) (h : wX11_judge v1 v2 v3 v4 v5 M Q) : Wa Γ 6 (Kf Γ (QL Q) 0 0) 0 0 0 [(0, aR 0), (1, aI v1), (2, aI v2), (3, aI v3), (4, aI v4), (5, aI v5)] [] (NC, RF, M) := by
  unfold wX11_judge at h
  refine a_iload_n hΓ 2 dX11_judge_0 rfl rfl ?_
  refine a_iconst hΓ dX11_judge_1 ?_
  refine a_iconst hΓ dX11_judge_2 ?_
  refine a_aload_n hΓ 0 dX11_judge_3 rfl rfl ?_
  refine n_getR hΓ fl_RX11_75 cl_11 kd_0 lz_0 dX11_judge_4 ft_11_9 rf_0_9 ?_
  refine n_getI (x := (M 100 1)) hΓ fl_RX11_294 cl_7 kd_100 lz_100 dX11_judge_7 (Or.inl ft_7_1) rfl ?_
  refine a_ishl hΓ dX11_judge_10 ?_
  refine a_iconst hΓ dX11_judge_11 ?_
  refine a_isub hΓ dX11_judge_12 ?_
  obtain ⟨P1, q2, h⟩ := h
  refine n_callS (av := [aI v2, aI 0, aI ((shlI 1 (M 100 1)) - 1)]) (st := []) hΓ (ct_wX11_within _ _ v2 0 ((shlI 1 (M 100 1)) - 1) M P1 q2) my_X11_within ml_RX11_79 rfl (Nat.le_trans (by decide) hh) (by decide) (Nat.le_of_ble_eq_true rfl) rfl dX11_judge_13 (fun v Z' hq => ?_)
  obtain ⟨r3, M4, rfl, rfl, hq⟩ := hq
  have h := h r3 M4 hq
  dsimp only at h
  obtain ⟨g5, h⟩ := h
  refine a_if_eq (tgt := 28) hΓ g5 dX11_judge_16 (by decide) (fun c6 => ?_) (fun c6 => ?_)
  · rw [if_pos c6] at h
    refine a_ldc2_w hΓ gc_RX11_212 dX11_judge_28 ?_
    exact a_lret hΓ hr dX11_judge_31 ⟨_, _, rfl, rfl, h⟩
  · rw [if_neg c6] at h
    refine a_iload_n hΓ 3 dX11_judge_19 rfl rfl ?_
    refine a_iload hΓ 4 dX11_judge_20 rfl ?_
    obtain ⟨P7, q8, h⟩ := h
    refine n_callS (av := [aI v3, aI v4]) (st := []) hΓ (ct_wX11_isStretch _ _ v3 v4 M4 P7 q8) my_X11_isStretch ml_RX11_209 rfl (Nat.le_trans (by decide) hh) (by decide) (Nat.le_of_ble_eq_true rfl) rfl dX11_judge_22 (fun v Z' hq => ?_)
    obtain ⟨r9, M10, rfl, rfl, hq⟩ := hq
    have h := h r9 M10 hq
    dsimp only at h
    obtain ⟨g11, h⟩ := h
    refine a_if_ne (tgt := 32) hΓ g11 dX11_judge_25 (by decide) (fun c12 => ?_) (fun c12 => ?_)
    · rw [if_pos c12] at h
      refine a_ldc2_w hΓ gc_RX11_212 dX11_judge_28 ?_
      exact a_lret hΓ hr dX11_judge_31 ⟨_, _, rfl, rfl, h⟩
    · rw [if_neg c12] at h
      refine a_aload_n hΓ 0 dX11_judge_32 rfl rfl ?_
      refine a_iload_n hΓ 1 dX11_judge_33 rfl rfl ?_
      refine a_iload hΓ 5 dX11_judge_34 rfl ?_
      obtain ⟨P13, q14, h⟩ := h
      refine n_callV (c := 0) (av := [aI v1, aI v5]) (st := []) hΓ (ct_wX11_bindAsKnown _ _ v1 v5 M10 P13 q14) my_X11_bindAsKnown ml_RX11_197 ni_X11_bindAsKnown kd_0 rfl lz_0 rfl (Nat.le_trans (by decide) hh) (by decide) (Nat.le_of_ble_eq_true rfl) rfl dX11_judge_36 (fun v Z' hq => ?_)
      obtain ⟨r15, M16, rfl, rfl, hq⟩ := hq
      have h := h r15 M16 hq
      dsimp only at h
      obtain ⟨g17, h⟩ := h
      refine a_if_eq (tgt := 56) hΓ g17 dX11_judge_39 (by decide) (fun c18 => ?_) (fun c18 => ?_)
      · rw [if_pos c18] at h
        refine a_ldc2_w hΓ gc_RX11_212 dX11_judge_56 ?_
        exact a_lret hΓ hr dX11_judge_59 ⟨_, _, rfl, rfl, h⟩
      · rw [if_neg c18] at h
        refine a_aload_n hΓ 0 dX11_judge_42 rfl rfl ?_
        refine n_getR hΓ fl_RX11_75 cl_11 kd_0 lz_0 dX11_judge_43 ft_11_9 rf_0_9 ?_
        refine a_iload_n hΓ 2 dX11_judge_46 rfl rfl ?_
        refine a_iload_n hΓ 3 dX11_judge_47 rfl rfl ?_
        refine a_iload hΓ 4 dX11_judge_48 rfl ?_
        obtain ⟨P19, q20, h⟩ := h
        refine n_callV (c := 100) (av := [aI v2, aI v3, aI v4]) (st := []) hΓ (ct_wX7_worstCost _ _ v2 v3 v4 M16 P19 q20) my_X7_worstCost ml_RX11_302 ni_X7_worstCost kd_100 rfl lz_100 rfl (Nat.le_trans (by decide) hh) (by decide) (Nat.le_of_ble_eq_true rfl) rfl dX11_judge_50 (fun v Z' hq => ?_)
        obtain ⟨r21, M22, rfl, rfl, hq⟩ := hq
        have h := h r21 M22 hq
        dsimp only at h
        refine a_goto (tgt := 59) hΓ dX11_judge_53 (by decide) ?_
        exact a_lret hΓ hr dX11_judge_59 ⟨_, _, rfl, rfl, h⟩
theorem ct_wX11_judge (l : Launch) (g : Gp) (v1 : Int) (v2 : Int) (v3 : Int) (v4 : Int) (v5 : Int) (M : Mm) (Q : Int → Mm → Prop) (h : wX11_judge v1 v2 v3 v4 v5 M Q) : Ct l g yX11_judge cX11_judge 6 (some .long) 6 0 0 [aR 0, aI v1, aI v2, aI v3, aI v4, aI v5] (NC, RF, M) (QL Q) :=
  ct_of (by decide) (Nat.le_of_ble_eq_true rfl) (fun Γ hg hl hr _ hΓ => by subst hg; subst hl; exact s_wX11_judge hΓ (by decide) hr v1 v2 v3 v4 v5 M h)
def wX4_sum_4 (Q : Int → Mm → Prop) : Nat → Int → Int → Mm → Prop
  | 0, _, _, _ => False
  | f + 1, v1, v3, M => (inR v3) ∧
    (inR (M 15 0)) ∧
    (if v3 < (M 15 0) then
      (0 ≤ v3 ∧ v3 < 24) ∧
      (inR (M 18 v3)) ∧
      (wX4_sum_4 Q f) (v1 + (M 18 v3)) (v3 + 1) M
    else
      Q v1 M)
set_option maxHeartbeats 4000000 in
theorem s_wX4_sum_4 {Γ : Cx} {h : Nat} (hΓ : Ok Γ cX4_sum RX4 4 h 0 0) (hh : 1 ≤ h) (hr : (cxm Γ).sig.returnType = (some .long)) {Q : Int → Mm → Prop}   : ∀ (f : Nat) (v1 : Int) (v3 : Int) (M : Mm), wX4_sum_4 Q  f v1 v3 M → Wa Γ 4 (Kf Γ (QL Q) 0 0) 0 0 4 [(0, aR 15), (1, aL v1), (3, aI v3)] [] (NC, RF, M) := by
  intro f
  induction f with
  | zero => intro v1 v3 M h; exact h.elim
  | succ f ih =>
    intro v1 v3 M h
    unfold wX4_sum_4 at h
    refine a_iload_n hΓ 2 dX4_sum_4 rfl rfl ?_
    refine a_aload_n hΓ 0 dX4_sum_5 rfl rfl ?_
    refine n_getI (x := (M 15 0)) hΓ fl_RX4_37 cl_4 kd_15 lz_15 dX4_sum_6 (Or.inl ft_4_0) rfl ?_
    obtain ⟨g1, h⟩ := h
    obtain ⟨g2, h⟩ := h
    refine a_icmp_ge (tgt := 28) hΓ g1 g2 dX4_sum_9 (by decide) (fun c3 => ?_) (fun c3 => ?_)
    · rw [if_pos c3] at h
      refine a_lload_n hΓ 1 dX4_sum_12 rfl rfl ?_
      refine a_aload_n hΓ 0 dX4_sum_13 rfl rfl ?_
      refine n_getR hΓ fl_RX4_18 cl_4 kd_15 lz_15 dX4_sum_14 ft_4_3 rf_15_3 ?_
      refine a_iload_n hΓ 2 dX4_sum_17 rfl rfl ?_
      obtain ⟨g4, h⟩ := h
      refine n_iald (x := (M 18 v3)) hΓ dX4_sum_18 kd_18 lz_18 g4 rfl ?_
      obtain ⟨g5, h⟩ := h
      refine a_i2l hΓ g5 dX4_sum_19 ?_
      refine a_ladd hΓ dX4_sum_20 ?_
      refine a_lstore_n (ls' := [(1, aL (v1 + (M 18 v3))), (0, aR 15), (3, aI v3)]) hΓ dX4_sum_21 rfl (by decide) rfl ?_
      refine a_iinc (ls' := [(3, aI (v3 + 1)), (1, aL (v1 + (M 18 v3))), (0, aR 15)]) hΓ 2 dX4_sum_22 rfl (by decide) rfl ?_
      refine a_goto (tgt := 4) hΓ dX4_sum_25 (by decide) ?_
      refine a_sub (ls' := [(0, aR 15), (1, aL (v1 + (M 18 v3))), (3, aI (v3 + 1))]) [2, 1, 0] rfl ?_
      exact ih (v1 + (M 18 v3)) (v3 + 1) M h
    · rw [if_neg c3] at h
      refine a_lload_n hΓ 1 dX4_sum_28 rfl rfl ?_
      exact a_lret hΓ hr dX4_sum_29 ⟨_, _, rfl, rfl, h⟩
def wX4_sum  (M : Mm) (Q : Int → Mm → Prop) : Prop :=
    ∃ n, wX4_sum_4 Q n 0 0 M
set_option maxHeartbeats 4000000 in
theorem s_wX4_sum {Γ : Cx} {h : Nat} (hΓ : Ok Γ cX4_sum RX4 4 h 0 0) (hh : 1 ≤ h) (hr : (cxm Γ).sig.returnType = (some .long)) {Q : Int → Mm → Prop}  (M : Mm) (h : wX4_sum  M Q) : Wa Γ 4 (Kf Γ (QL Q) 0 0) 0 0 0 [(0, aR 15)] [] (NC, RF, M) := by
  unfold wX4_sum at h
  refine a_lconst (x := 0) hΓ dX4_sum_0 rfl ?_
  refine a_lstore_n (ls' := [(1, aL 0), (0, aR 15)]) hΓ dX4_sum_1 rfl (by decide) rfl ?_
  refine a_iconst hΓ dX4_sum_2 ?_
  refine a_istore_n (ls' := [(3, aI 0), (1, aL 0), (0, aR 15)]) hΓ dX4_sum_3 rfl (by decide) rfl ?_
  refine a_sub (ls' := [(0, aR 15), (1, aL 0), (3, aI 0)]) [2, 1, 0] rfl ?_
  obtain ⟨f1, h⟩ := h
  exact s_wX4_sum_4 hΓ (Nat.le_trans (by decide) hh) hr  f1 0 0 M h
theorem ct_wX4_sum (l : Launch) (g : Gp)  (M : Mm) (Q : Int → Mm → Prop) (h : wX4_sum  M Q) : Ct l g yX4_sum cX4_sum 4 (some .long) 1 0 0 [aR 15] (NC, RF, M) (QL Q) :=
  ct_of (by decide) (Nat.le_of_ble_eq_true rfl) (fun Γ hg hl hr _ hΓ => by subst hg; subst hl; exact s_wX4_sum hΓ (by decide) hr  M h)
def wX4_placedSum_4 (Q : Int → Mm → Prop) : Nat → Int → Int → Mm → Prop
  | 0, _, _, _ => False
  | f + 1, v1, v3, M => (inR v3) ∧
    (inR (M 15 0)) ∧
    (if v3 < (M 15 0) then
      (0 ≤ v3 ∧ v3 < 24) ∧
      (inR (M 18 v3)) ∧
      (inR (v3 + 1)) ∧
      (wX4_placedSum_4 Q f) (v1 + ((M 18 v3) * (v3 + 1))) (v3 + 1) M
    else
      Q v1 M)
set_option maxHeartbeats 4000000 in
theorem s_wX4_placedSum_4 {Γ : Cx} {h : Nat} (hΓ : Ok Γ cX4_placedSum RX4 4 h 0 0) (hh : 1 ≤ h) (hr : (cxm Γ).sig.returnType = (some .long)) {Q : Int → Mm → Prop}   : ∀ (f : Nat) (v1 : Int) (v3 : Int) (M : Mm), wX4_placedSum_4 Q  f v1 v3 M → Wa Γ 4 (Kf Γ (QL Q) 0 0) 0 0 4 [(0, aR 15), (1, aL v1), (3, aI v3)] [] (NC, RF, M) := by
  intro f
  induction f with
  | zero => intro v1 v3 M h; exact h.elim
  | succ f ih =>
    intro v1 v3 M h
    unfold wX4_placedSum_4 at h
    refine a_iload_n hΓ 2 dX4_placedSum_4 rfl rfl ?_
    refine a_aload_n hΓ 0 dX4_placedSum_5 rfl rfl ?_
    refine n_getI (x := (M 15 0)) hΓ fl_RX4_37 cl_4 kd_15 lz_15 dX4_placedSum_6 (Or.inl ft_4_0) rfl ?_
    obtain ⟨g1, h⟩ := h
    obtain ⟨g2, h⟩ := h
    refine a_icmp_ge (tgt := 33) hΓ g1 g2 dX4_placedSum_9 (by decide) (fun c3 => ?_) (fun c3 => ?_)
    · rw [if_pos c3] at h
      refine a_lload_n hΓ 1 dX4_placedSum_12 rfl rfl ?_
      refine a_aload_n hΓ 0 dX4_placedSum_13 rfl rfl ?_
      refine n_getR hΓ fl_RX4_18 cl_4 kd_15 lz_15 dX4_placedSum_14 ft_4_3 rf_15_3 ?_
      refine a_iload_n hΓ 2 dX4_placedSum_17 rfl rfl ?_
      obtain ⟨g4, h⟩ := h
      refine n_iald (x := (M 18 v3)) hΓ dX4_placedSum_18 kd_18 lz_18 g4 rfl ?_
      obtain ⟨g5, h⟩ := h
      refine a_i2l hΓ g5 dX4_placedSum_19 ?_
      refine a_iload_n hΓ 2 dX4_placedSum_20 rfl rfl ?_
      refine a_iconst hΓ dX4_placedSum_21 ?_
      refine a_iadd hΓ dX4_placedSum_22 ?_
      obtain ⟨g6, h⟩ := h
      refine a_i2l hΓ g6 dX4_placedSum_23 ?_
      refine a_lmul hΓ dX4_placedSum_24 ?_
      refine a_ladd hΓ dX4_placedSum_25 ?_
      refine a_lstore_n (ls' := [(1, aL (v1 + ((M 18 v3) * (v3 + 1)))), (0, aR 15), (3, aI v3)]) hΓ dX4_placedSum_26 rfl (by decide) rfl ?_
      refine a_iinc (ls' := [(3, aI (v3 + 1)), (1, aL (v1 + ((M 18 v3) * (v3 + 1)))), (0, aR 15)]) hΓ 2 dX4_placedSum_27 rfl (by decide) rfl ?_
      refine a_goto (tgt := 4) hΓ dX4_placedSum_30 (by decide) ?_
      refine a_sub (ls' := [(0, aR 15), (1, aL (v1 + ((M 18 v3) * (v3 + 1)))), (3, aI (v3 + 1))]) [2, 1, 0] rfl ?_
      exact ih (v1 + ((M 18 v3) * (v3 + 1))) (v3 + 1) M h
    · rw [if_neg c3] at h
      refine a_lload_n hΓ 1 dX4_placedSum_33 rfl rfl ?_
      exact a_lret hΓ hr dX4_placedSum_34 ⟨_, _, rfl, rfl, h⟩
def wX4_placedSum  (M : Mm) (Q : Int → Mm → Prop) : Prop :=
    ∃ n, wX4_placedSum_4 Q n 0 0 M
set_option maxHeartbeats 4000000 in
theorem s_wX4_placedSum {Γ : Cx} {h : Nat} (hΓ : Ok Γ cX4_placedSum RX4 4 h 0 0) (hh : 1 ≤ h) (hr : (cxm Γ).sig.returnType = (some .long)) {Q : Int → Mm → Prop}  (M : Mm) (h : wX4_placedSum  M Q) : Wa Γ 4 (Kf Γ (QL Q) 0 0) 0 0 0 [(0, aR 15)] [] (NC, RF, M) := by
  unfold wX4_placedSum at h
  refine a_lconst (x := 0) hΓ dX4_placedSum_0 rfl ?_
  refine a_lstore_n (ls' := [(1, aL 0), (0, aR 15)]) hΓ dX4_placedSum_1 rfl (by decide) rfl ?_
  refine a_iconst hΓ dX4_placedSum_2 ?_
  refine a_istore_n (ls' := [(3, aI 0), (1, aL 0), (0, aR 15)]) hΓ dX4_placedSum_3 rfl (by decide) rfl ?_
  refine a_sub (ls' := [(0, aR 15), (1, aL 0), (3, aI 0)]) [2, 1, 0] rfl ?_
  obtain ⟨f1, h⟩ := h
  exact s_wX4_placedSum_4 hΓ (Nat.le_trans (by decide) hh) hr  f1 0 0 M h
theorem ct_wX4_placedSum (l : Launch) (g : Gp)  (M : Mm) (Q : Int → Mm → Prop) (h : wX4_placedSum  M Q) : Ct l g yX4_placedSum cX4_placedSum 4 (some .long) 1 0 0 [aR 15] (NC, RF, M) (QL Q) :=
  ct_of (by decide) (Nat.le_of_ble_eq_true rfl) (fun Γ hg hl hr _ hΓ => by subst hg; subst hl; exact s_wX4_placedSum hΓ (by decide) hr  M h)
def wX11_seal  (M : Mm) (Q : Int → Mm → Prop) : Prop :=
    Bd (wX4_sum (up M 1 4 (M 15 0))) (fun r3 M4 =>
    Bd (wX4_placedSum (up M4 1 5 r3)) (fun r7 M8 =>
    Q (M8 15 0) (up M8 1 6 r7)))
set_option maxHeartbeats 4000000 in
theorem s_wX11_seal {Γ : Cx} {h : Nat} (hΓ : Ok Γ cX11_seal RX11 2 h 0 0) (hh : 2 ≤ h) (hr : (cxm Γ).sig.returnType = (some .int)) {Q : Int → Mm → Prop}  (M : Mm) (h : wX11_seal  M Q) : Wa Γ 2 (Kf Γ (QI Q) 0 0) 0 0 0 [(0, aR 0)] [] (NC, RF, M) := by
  unfold wX11_seal at h
  refine a_aload_n hΓ 0 dX11_seal_0 rfl rfl ?_
  refine n_getR hΓ fl_RX11_10 cl_11 kd_0 lz_0 dX11_seal_1 ft_11_0 rf_0_0 ?_
  refine n_getR hΓ fl_RX11_153 cl_0 kd_1 lz_1 dX11_seal_4 ft_0_14 rf_1_14 ?_
  refine a_astore_n (ls' := [(1, aR 15), (0, aR 0)]) hΓ dX11_seal_7 rfl (by decide) rfl ?_
  refine a_aload_n hΓ 1 dX11_seal_8 rfl rfl ?_
  refine n_getR hΓ fl_RX11_10 cl_11 kd_0 lz_0 dX11_seal_9 ft_11_0 rf_0_0 ?_
  refine a_aload_n hΓ 0 dX11_seal_12 rfl rfl ?_
  refine n_getI (x := (M 15 0)) hΓ fl_RX11_306 cl_4 kd_15 lz_15 dX11_seal_13 (Or.inl ft_4_0) rfl ?_
  refine n_putI (j := 4) hΓ fl_RX11_307 cl_0 nf_0_4 kd_1 lz_1 dX11_seal_16 (Or.inl ft_0_4) rfl ?_
  refine a_aload_n hΓ 1 dX11_seal_19 rfl rfl ?_
  refine n_getR hΓ fl_RX11_10 cl_11 kd_0 lz_0 dX11_seal_20 ft_11_0 rf_0_0 ?_
  refine a_aload_n hΓ 0 dX11_seal_23 rfl rfl ?_
  obtain ⟨P1, q2, h⟩ := h
  refine n_callV (c := 15) (av := []) (st := [aR 1]) hΓ (ct_wX4_sum _ _  (up M 1 4 (M 15 0)) P1 q2) my_X4_sum ml_RX11_310 ni_X4_sum kd_15 rfl lz_15 rfl (Nat.le_trans (by decide) hh) (by decide) (Nat.le_of_ble_eq_true rfl) rfl dX11_seal_24 (fun v Z' hq => ?_)
  obtain ⟨r3, M4, rfl, rfl, hq⟩ := hq
  have h := h r3 M4 hq
  dsimp only at h
  refine n_putL (j := 5) hΓ fl_RX11_314 cl_0 nf_0_5 kd_1 lz_1 dX11_seal_27 ft_0_5 rfl ?_
  refine a_aload_n hΓ 1 dX11_seal_30 rfl rfl ?_
  refine n_getR hΓ fl_RX11_10 cl_11 kd_0 lz_0 dX11_seal_31 ft_11_0 rf_0_0 ?_
  refine a_aload_n hΓ 0 dX11_seal_34 rfl rfl ?_
  obtain ⟨P5, q6, h⟩ := h
  refine n_callV (c := 15) (av := []) (st := [aR 1]) hΓ (ct_wX4_placedSum _ _  (up M4 1 5 r3) P5 q6) my_X4_placedSum ml_RX11_318 ni_X4_placedSum kd_15 rfl lz_15 rfl (Nat.le_trans (by decide) hh) (by decide) (Nat.le_of_ble_eq_true rfl) rfl dX11_seal_35 (fun v Z' hq => ?_)
  obtain ⟨r7, M8, rfl, rfl, hq⟩ := hq
  have h := h r7 M8 hq
  dsimp only at h
  refine n_putL (j := 6) hΓ fl_RX11_321 cl_0 nf_0_6 kd_1 lz_1 dX11_seal_38 ft_0_6 rfl ?_
  refine a_aload_n hΓ 0 dX11_seal_41 rfl rfl ?_
  refine n_getI (x := (M8 15 0)) hΓ fl_RX11_306 cl_4 kd_15 lz_15 dX11_seal_42 (Or.inl ft_4_0) rfl ?_
  exact a_iret hΓ hr dX11_seal_45 ⟨_, _, rfl, rfl, h⟩
theorem ct_wX11_seal (l : Launch) (g : Gp)  (M : Mm) (Q : Int → Mm → Prop) (h : wX11_seal  M Q) : Ct l g yX11_seal cX11_seal 2 (some .int) 2 0 0 [aR 0] (NC, RF, M) (QI Q) :=
  ct_of (by decide) (Nat.le_of_ble_eq_true rfl) (fun Γ hg hl hr _ hΓ => by subst hg; subst hl; exact s_wX11_seal hΓ (by decide) hr  M h)
def wX11_alter (v1 : Int) (v2 : Int) (M : Mm) (Q : Int → Mm → Prop) : Prop :=
    Bd (wX11_within v2 1 255 M) (fun r3 M4 =>
    (inR r3) ∧
    (if r3 = 0 then
      Bd (wX11_refuse (-1) M4) (fun r9 M10 =>
      Q r9 M10)
    else
      Bd (wX11_isLog v1 M4) (fun r13 M14 =>
      (inR r13) ∧
      (if r13 = 0 then
        Bd (wX11_refuse (-2) M14) (fun r19 M20 =>
        Q r19 M20)
      else
        (0 ≤ v1 ∧ v1 < 24) ∧
        Bd (wX11_accept ((up M14 18 v1 (lxorI (M14 18 v1) v2)) 18 v1) (up M14 18 v1 (lxorI (M14 18 v1) v2))) (fun r24 M25 =>
        Q r24 M25)))))
set_option maxHeartbeats 4000000 in
theorem s_wX11_alter {Γ : Cx} {h : Nat} (hΓ : Ok Γ cX11_alter RX11 3 h 0 0) (hh : 3 ≤ h) (hr : (cxm Γ).sig.returnType = (some .int)) {Q : Int → Mm → Prop} (v1 : Int) (v2 : Int) (M : Mm) (h : wX11_alter v1 v2 M Q) : Wa Γ 3 (Kf Γ (QI Q) 0 0) 0 0 0 [(0, aR 0), (1, aI v1), (2, aI v2)] [] (NC, RF, M) := by
  unfold wX11_alter at h
  refine a_iload_n hΓ 2 dX11_alter_0 rfl rfl ?_
  refine a_iconst hΓ dX11_alter_1 ?_
  refine a_sipush hΓ dX11_alter_2 (by decide) ?_
  obtain ⟨P1, q2, h⟩ := h
  refine n_callS (av := [aI v2, aI 1, aI 255]) (st := []) hΓ (ct_wX11_within _ _ v2 1 255 M P1 q2) my_X11_within ml_RX11_79 rfl (Nat.le_trans (by decide) hh) (by decide) (Nat.le_of_ble_eq_true rfl) rfl dX11_alter_5 (fun v Z' hq => ?_)
  obtain ⟨r3, M4, rfl, rfl, hq⟩ := hq
  have h := h r3 M4 hq
  dsimp only at h
  obtain ⟨g5, h⟩ := h
  refine a_if_ne (tgt := 17) hΓ g5 dX11_alter_8 (by decide) (fun c6 => ?_) (fun c6 => ?_)
  · rw [if_pos c6] at h
    refine a_aload_n hΓ 0 dX11_alter_11 rfl rfl ?_
    refine a_iconst hΓ dX11_alter_12 ?_
    obtain ⟨P7, q8, h⟩ := h
    refine n_callV (c := 0) (av := [aI (-1)]) (st := []) hΓ (ct_wX11_refuse _ _ (-1) M4 P7 q8) my_X11_refuse ml_RX11_83 ni_X11_refuse kd_0 rfl lz_0 rfl (Nat.le_trans (by decide) hh) (by decide) (Nat.le_of_ble_eq_true rfl) rfl dX11_alter_13 (fun v Z' hq => ?_)
    obtain ⟨r9, M10, rfl, rfl, hq⟩ := hq
    have h := h r9 M10 hq
    dsimp only at h
    exact a_iret hΓ hr dX11_alter_16 ⟨_, _, rfl, rfl, h⟩
  · rw [if_neg c6] at h
    refine a_aload_n hΓ 0 dX11_alter_17 rfl rfl ?_
    refine a_iload_n hΓ 1 dX11_alter_18 rfl rfl ?_
    obtain ⟨P11, q12, h⟩ := h
    refine n_callV (c := 0) (av := [aI v1]) (st := []) hΓ (ct_wX11_isLog _ _ v1 M4 P11 q12) my_X11_isLog ml_RX11_150 ni_X11_isLog kd_0 rfl lz_0 rfl (Nat.le_trans (by decide) hh) (by decide) (Nat.le_of_ble_eq_true rfl) rfl dX11_alter_19 (fun v Z' hq => ?_)
    obtain ⟨r13, M14, rfl, rfl, hq⟩ := hq
    have h := h r13 M14 hq
    dsimp only at h
    obtain ⟨g15, h⟩ := h
    refine a_if_ne (tgt := 32) hΓ g15 dX11_alter_22 (by decide) (fun c16 => ?_) (fun c16 => ?_)
    · rw [if_pos c16] at h
      refine a_aload_n hΓ 0 dX11_alter_25 rfl rfl ?_
      refine a_bipush hΓ dX11_alter_26 (by decide) ?_
      obtain ⟨P17, q18, h⟩ := h
      refine n_callV (c := 0) (av := [aI (-2)]) (st := []) hΓ (ct_wX11_refuse _ _ (-2) M14 P17 q18) my_X11_refuse ml_RX11_83 ni_X11_refuse kd_0 rfl lz_0 rfl (Nat.le_trans (by decide) hh) (by decide) (Nat.le_of_ble_eq_true rfl) rfl dX11_alter_28 (fun v Z' hq => ?_)
      obtain ⟨r19, M20, rfl, rfl, hq⟩ := hq
      have h := h r19 M20 hq
      dsimp only at h
      exact a_iret hΓ hr dX11_alter_31 ⟨_, _, rfl, rfl, h⟩
    · rw [if_neg c16] at h
      refine a_aload_n hΓ 0 dX11_alter_32 rfl rfl ?_
      refine n_getR hΓ fl_RX11_10 cl_11 kd_0 lz_0 dX11_alter_33 ft_11_0 rf_0_0 ?_
      refine n_getR hΓ fl_RX11_153 cl_0 kd_1 lz_1 dX11_alter_36 ft_0_14 rf_1_14 ?_
      refine n_getR hΓ fl_RX11_324 cl_4 kd_15 lz_15 dX11_alter_39 ft_4_3 rf_15_3 ?_
      refine a_iload_n hΓ 1 dX11_alter_42 rfl rfl ?_
      refine a_dup2 hΓ dX11_alter_43 ?_
      obtain ⟨g21, h⟩ := h
      refine n_iald (x := (M14 18 v1)) hΓ dX11_alter_44 kd_18 lz_18 g21 rfl ?_
      refine a_iload_n hΓ 2 dX11_alter_45 rfl rfl ?_
      refine a_ixor hΓ dX11_alter_46 ?_
      refine a_iast hΓ dX11_alter_47 kd_18 lz_18 g21 ?_
      refine a_aload_n hΓ 0 dX11_alter_48 rfl rfl ?_
      refine a_aload_n hΓ 0 dX11_alter_49 rfl rfl ?_
      refine n_getR hΓ fl_RX11_10 cl_11 kd_0 lz_0 dX11_alter_50 ft_11_0 rf_0_0 ?_
      refine n_getR hΓ fl_RX11_153 cl_0 kd_1 lz_1 dX11_alter_53 ft_0_14 rf_1_14 ?_
      refine n_getR hΓ fl_RX11_324 cl_4 kd_15 lz_15 dX11_alter_56 ft_4_3 rf_15_3 ?_
      refine a_iload_n hΓ 1 dX11_alter_59 rfl rfl ?_
      refine n_iald (x := ((up M14 18 v1 (lxorI (M14 18 v1) v2)) 18 v1)) hΓ dX11_alter_60 kd_18 lz_18 g21 rfl ?_
      obtain ⟨P22, q23, h⟩ := h
      refine n_callV (c := 0) (av := [aI ((up M14 18 v1 (lxorI (M14 18 v1) v2)) 18 v1)]) (st := []) hΓ (ct_wX11_accept _ _ ((up M14 18 v1 (lxorI (M14 18 v1) v2)) 18 v1) (up M14 18 v1 (lxorI (M14 18 v1) v2)) P22 q23) my_X11_accept ml_RX11_91 ni_X11_accept kd_0 rfl lz_0 rfl (Nat.le_trans (by decide) hh) (by decide) (Nat.le_of_ble_eq_true rfl) rfl dX11_alter_61 (fun v Z' hq => ?_)
      obtain ⟨r24, M25, rfl, rfl, hq⟩ := hq
      have h := h r24 M25 hq
      dsimp only at h
      exact a_iret hΓ hr dX11_alter_64 ⟨_, _, rfl, rfl, h⟩
theorem ct_wX11_alter (l : Launch) (g : Gp) (v1 : Int) (v2 : Int) (M : Mm) (Q : Int → Mm → Prop) (h : wX11_alter v1 v2 M Q) : Ct l g yX11_alter cX11_alter 3 (some .int) 3 0 0 [aR 0, aI v1, aI v2] (NC, RF, M) (QI Q) :=
  ct_of (by decide) (Nat.le_of_ble_eq_true rfl) (fun Γ hg hl hr _ hΓ => by subst hg; subst hl; exact s_wX11_alter hΓ (by decide) hr v1 v2 M h)
def wX11_found_89 (Q : Int → Mm → Prop) (v2 : Int) (v4 : Int) : Nat → Int → Mm → Prop
  | 0, _, _ => False
  | f + 1, v6, M => (inR v6) ∧
    (inR (M 15 0)) ∧
    (if v6 < (M 15 0) then
      (inR (v6 + 1)) ∧
      (inR64 (v2 * (v6 + 1))) ∧
      (inR64 v4) ∧
      (if (cmpI (v2 * (v6 + 1)) v4) = 0 then
        Q v6 M
      else
        (wX11_found_89 Q v2 v4 f) (v6 + 1) M)
    else
      Q (-2) M)
set_option maxHeartbeats 4000000 in
theorem s_wX11_found_89 {Γ : Cx} {h : Nat} (hΓ : Ok Γ cX11_found RX11 7 h 0 0) (hh : 2 ≤ h) (hr : (cxm Γ).sig.returnType = (some .int)) {Q : Int → Mm → Prop} {v2 v4 : Int}   : ∀ (f : Nat) (v6 : Int) (M : Mm), wX11_found_89 Q v2 v4 f v6 M → Wa Γ 7 (Kf Γ (QI Q) 0 0) 0 0 89 [(1, aR 15), (2, aL v2), (4, aL v4), (6, aI v6)] [] (NC, RF, M) := by
  intro f
  induction f with
  | zero => intro v6 M h; exact h.elim
  | succ f ih =>
    intro v6 M h
    unfold wX11_found_89 at h
    refine a_iload hΓ 3 dX11_found_89 rfl ?_
    refine a_aload_n hΓ 0 dX11_found_91 rfl rfl ?_
    refine n_getI (x := (M 15 0)) hΓ fl_RX11_306 cl_4 kd_15 lz_15 dX11_found_92 (Or.inl ft_4_0) rfl ?_
    obtain ⟨g1, h⟩ := h
    obtain ⟨g2, h⟩ := h
    refine a_icmp_ge (tgt := 120) hΓ g1 g2 dX11_found_95 (by decide) (fun c3 => ?_) (fun c3 => ?_)
    · rw [if_pos c3] at h
      refine a_lload_n hΓ 1 dX11_found_98 rfl rfl ?_
      refine a_iload hΓ 3 dX11_found_99 rfl ?_
      refine a_iconst hΓ dX11_found_101 ?_
      refine a_iadd hΓ dX11_found_102 ?_
      obtain ⟨g4, h⟩ := h
      refine a_i2l hΓ g4 dX11_found_103 ?_
      refine a_lmul hΓ dX11_found_104 ?_
      refine a_lload hΓ 2 dX11_found_105 rfl ?_
      obtain ⟨g5, h⟩ := h
      obtain ⟨g6, h⟩ := h
      refine a_lcmp hΓ g5 g6 dX11_found_107 ?_
      refine a_if_ne (tgt := 114) hΓ (inR_cmp _ _) dX11_found_108 (by decide) (fun c7 => ?_) (fun c7 => ?_)
      · rw [if_pos c7] at h
        refine a_iload hΓ 3 dX11_found_111 rfl ?_
        exact a_iret hΓ hr dX11_found_113 ⟨_, _, rfl, rfl, h⟩
      · rw [if_neg c7] at h
        refine a_iinc (ls' := [(6, aI (v6 + 1)), (1, aR 15), (2, aL v2), (4, aL v4)]) hΓ 3 dX11_found_114 rfl (by decide) rfl ?_
        refine a_goto (tgt := 89) hΓ dX11_found_117 (by decide) ?_
        refine a_sub (ls' := [(1, aR 15), (2, aL v2), (4, aL v4), (6, aI (v6 + 1))]) [1, 2, 3, 0] rfl ?_
        exact ih (v6 + 1) M h
    · rw [if_neg c3] at h
      refine a_bipush hΓ dX11_found_120 (by decide) ?_
      exact a_iret hΓ hr dX11_found_122 ⟨_, _, rfl, rfl, h⟩
def wX11_found  (M : Mm) (Q : Int → Mm → Prop) : Prop :=
    (inR (M 1 4)) ∧
    (if (M 1 4) = (-1) then
      Q (-3) M
    else
      (inR (M 15 0)) ∧
      (if (M 15 0) ≤ (M 1 4) then
        Bd (wX4_sum M) (fun r7 M8 =>
        Bd (wX4_placedSum M8) (fun r11 M12 =>
        (inR64 (r7 - (M8 1 5))) ∧
        (if (cmpI (r7 - (M8 1 5)) 0) = 0 then
          (inR64 (r11 - (M12 1 6))) ∧
          (if (cmpI (r11 - (M12 1 6)) 0) = 0 then
            Q (-1) M12
          else
            Q (-2) M12)
        else
          ∃ n, wX11_found_89 Q (r7 - (M8 1 5)) (r11 - (M12 1 6)) n 0 M12)))
      else
        Q (-2) M))
set_option maxHeartbeats 4000000 in
theorem s_wX11_found {Γ : Cx} {h : Nat} (hΓ : Ok Γ cX11_found RX11 7 h 0 0) (hh : 2 ≤ h) (hr : (cxm Γ).sig.returnType = (some .int)) {Q : Int → Mm → Prop}  (M : Mm) (h : wX11_found  M Q) : Wa Γ 7 (Kf Γ (QI Q) 0 0) 0 0 0 [(0, aR 0)] [] (NC, RF, M) := by
  unfold wX11_found at h
  refine a_aload_n hΓ 0 dX11_found_0 rfl rfl ?_
  refine n_getR hΓ fl_RX11_10 cl_11 kd_0 lz_0 dX11_found_1 ft_11_0 rf_0_0 ?_
  refine n_getR hΓ fl_RX11_153 cl_0 kd_1 lz_1 dX11_found_4 ft_0_14 rf_1_14 ?_
  refine a_astore_n (ls' := [(1, aR 15), (0, aR 0)]) hΓ dX11_found_7 rfl (by decide) rfl ?_
  refine a_aload_n hΓ 1 dX11_found_8 rfl rfl ?_
  refine n_getR hΓ fl_RX11_10 cl_11 kd_0 lz_0 dX11_found_9 ft_11_0 rf_0_0 ?_
  refine n_getI (x := (M 1 4)) hΓ fl_RX11_307 cl_0 kd_1 lz_1 dX11_found_12 (Or.inl ft_0_4) rfl ?_
  refine a_iconst hΓ dX11_found_15 ?_
  obtain ⟨g1, h⟩ := h
  refine a_icmp_ne (tgt := 22) hΓ g1 (inRl (by decide)) dX11_found_16 (by decide) (fun c2 => ?_) (fun c2 => ?_)
  · rw [if_pos c2] at h
    refine a_bipush hΓ dX11_found_19 (by decide) ?_
    exact a_iret hΓ hr dX11_found_21 ⟨_, _, rfl, rfl, h⟩
  · rw [if_neg c2] at h
    refine a_aload_n hΓ 0 dX11_found_22 rfl rfl ?_
    refine n_getI (x := (M 15 0)) hΓ fl_RX11_306 cl_4 kd_15 lz_15 dX11_found_23 (Or.inl ft_4_0) rfl ?_
    refine a_aload_n hΓ 1 dX11_found_26 rfl rfl ?_
    refine n_getR hΓ fl_RX11_10 cl_11 kd_0 lz_0 dX11_found_27 ft_11_0 rf_0_0 ?_
    refine n_getI (x := (M 1 4)) hΓ fl_RX11_307 cl_0 kd_1 lz_1 dX11_found_30 (Or.inl ft_0_4) rfl ?_
    obtain ⟨g3, h⟩ := h
    refine a_icmp_le (tgt := 39) hΓ g3 g1 dX11_found_33 (by decide) (fun c4 => ?_) (fun c4 => ?_)
    · rw [if_pos c4] at h
      refine a_aload_n hΓ 0 dX11_found_39 rfl rfl ?_
      obtain ⟨P5, q6, h⟩ := h
      refine n_callV (c := 15) (av := []) (st := []) hΓ (ct_wX4_sum _ _  M P5 q6) my_X4_sum ml_RX11_310 ni_X4_sum kd_15 rfl lz_15 rfl (Nat.le_trans (by decide) hh) (by decide) (Nat.le_of_ble_eq_true rfl) rfl dX11_found_40 (fun v Z' hq => ?_)
      obtain ⟨r7, M8, rfl, rfl, hq⟩ := hq
      have h := h r7 M8 hq
      dsimp only at h
      refine a_aload_n hΓ 1 dX11_found_43 rfl rfl ?_
      refine n_getR hΓ fl_RX11_10 cl_11 kd_0 lz_0 dX11_found_44 ft_11_0 rf_0_0 ?_
      refine n_getL (x := (M8 1 5)) hΓ fl_RX11_314 cl_0 kd_1 lz_1 dX11_found_47 ft_0_5 rfl ?_
      refine a_lsub hΓ dX11_found_50 ?_
      refine a_lstore_n (ls' := [(2, aL (r7 - (M8 1 5))), (1, aR 15), (0, aR 0)]) hΓ dX11_found_51 rfl (by decide) rfl ?_
      refine a_aload_n hΓ 1 dX11_found_52 rfl rfl ?_
      obtain ⟨P9, q10, h⟩ := h
      refine n_callV (c := 15) (av := []) (st := []) hΓ (ct_wX4_placedSum _ _  M8 P9 q10) my_X4_placedSum ml_RX11_318 ni_X4_placedSum kd_15 rfl lz_15 rfl (Nat.le_trans (by decide) hh) (by decide) (Nat.le_of_ble_eq_true rfl) rfl dX11_found_53 (fun v Z' hq => ?_)
      obtain ⟨r11, M12, rfl, rfl, hq⟩ := hq
      have h := h r11 M12 hq
      dsimp only at h
      refine a_aload_n hΓ 2 dX11_found_56 rfl rfl ?_
      refine n_getR hΓ fl_RX11_10 cl_11 kd_0 lz_0 dX11_found_57 ft_11_0 rf_0_0 ?_
      refine n_getL (x := (M12 1 6)) hΓ fl_RX11_321 cl_0 kd_1 lz_1 dX11_found_60 ft_0_6 rfl ?_
      refine a_lsub hΓ dX11_found_63 ?_
      refine a_lstore (ls' := [(4, aL (r11 - (M12 1 6))), (2, aL (r7 - (M8 1 5))), (1, aR 15), (0, aR 0)]) hΓ dX11_found_64 (by decide) rfl ?_
      refine a_lload_n hΓ 1 dX11_found_66 rfl rfl ?_
      refine a_lconst (x := 0) hΓ dX11_found_67 rfl ?_
      obtain ⟨g13, h⟩ := h
      refine a_lcmp hΓ g13 (inRl64 (by decide)) dX11_found_68 ?_
      refine a_if_ne (tgt := 86) hΓ (inR_cmp _ _) dX11_found_69 (by decide) (fun c14 => ?_) (fun c14 => ?_)
      · rw [if_pos c14] at h
        refine a_lload hΓ 0 dX11_found_72 rfl ?_
        refine a_lconst (x := 0) hΓ dX11_found_74 rfl ?_
        obtain ⟨g15, h⟩ := h
        refine a_lcmp hΓ g15 (inRl64 (by decide)) dX11_found_75 ?_
        refine a_if_ne (tgt := 83) hΓ (inR_cmp _ _) dX11_found_76 (by decide) (fun c16 => ?_) (fun c16 => ?_)
        · rw [if_pos c16] at h
          refine a_iconst hΓ dX11_found_79 ?_
          refine a_goto (tgt := 85) hΓ dX11_found_80 (by decide) ?_
          exact a_iret hΓ hr dX11_found_85 ⟨_, _, rfl, rfl, h⟩
        · rw [if_neg c16] at h
          refine a_bipush hΓ dX11_found_83 (by decide) ?_
          exact a_iret hΓ hr dX11_found_85 ⟨_, _, rfl, rfl, h⟩
      · rw [if_neg c14] at h
        refine a_iconst hΓ dX11_found_86 ?_
        refine a_istore (ls' := [(6, aI 0), (4, aL (r11 - (M12 1 6))), (2, aL (r7 - (M8 1 5))), (1, aR 15), (0, aR 0)]) hΓ dX11_found_87 (by decide) rfl ?_
        refine a_sub (ls' := [(1, aR 15), (2, aL (r7 - (M8 1 5))), (4, aL (r11 - (M12 1 6))), (6, aI 0)]) [3, 2, 1, 0] rfl ?_
        obtain ⟨f17, h⟩ := h
        exact s_wX11_found_89 hΓ (Nat.le_trans (by decide) hh) hr  f17 0 M12 h
    · rw [if_neg c4] at h
      refine a_bipush hΓ dX11_found_36 (by decide) ?_
      exact a_iret hΓ hr dX11_found_38 ⟨_, _, rfl, rfl, h⟩
theorem ct_wX11_found (l : Launch) (g : Gp)  (M : Mm) (Q : Int → Mm → Prop) (h : wX11_found  M Q) : Ct l g yX11_found cX11_found 7 (some .int) 2 0 0 [aR 0] (NC, RF, M) (QI Q) :=
  ct_of (by decide) (Nat.le_of_ble_eq_true rfl) (fun Γ hg hl hr _ hΓ => by subst hg; subst hl; exact s_wX11_found hΓ (by decide) hr  M h)
def wX3_copyFrom  (M : Mm) (Q : Mm → Prop) : Prop :=
    Q (cpy (cpy (cpy (cpy (cpy (cpy (up M 32 0 (M 8 0)) 9 33 60) 10 34 60) 11 35 60) 12 36 60) 13 37 60) 14 38 60)
set_option maxHeartbeats 4000000 in
theorem s_wX3_copyFrom {Γ : Cx} {h : Nat} (hΓ : Ok Γ cX3_copyFrom RX3 2 h 0 0) (hh : 1 ≤ h) (hr : (cxm Γ).sig.returnType = none) {Q : Mm → Prop}  (M : Mm) (h : wX3_copyFrom  M Q) : Wa Γ 2 (Kf Γ (QV Q) 0 0) 0 0 0 [(0, aR 32), (1, aR 8)] [] (NC, RF, M) := by
  unfold wX3_copyFrom at h
  refine a_aload_n hΓ 0 dX3_copyFrom_0 rfl rfl ?_
  refine a_aload_n hΓ 1 dX3_copyFrom_1 rfl rfl ?_
  refine n_getI (x := (M 8 0)) hΓ fl_RX3_30 cl_3 kd_8 lz_8 dX3_copyFrom_2 (Or.inl ft_3_0) rfl ?_
  refine n_putI (j := 0) hΓ fl_RX3_30 cl_3 nf_3_0 kd_32 lz_32 dX3_copyFrom_5 (Or.inl ft_3_0) rfl ?_
  refine a_aload_n hΓ 1 dX3_copyFrom_8 rfl rfl ?_
  refine n_getR hΓ fl_RX3_9 cl_3 kd_8 lz_8 dX3_copyFrom_9 ft_3_1 rf_8_1 ?_
  refine a_iconst hΓ dX3_copyFrom_12 ?_
  refine a_aload_n hΓ 0 dX3_copyFrom_13 rfl rfl ?_
  refine n_getR hΓ fl_RX3_9 cl_3 kd_32 lz_32 dX3_copyFrom_14 ft_3_1 rf_32_1 ?_
  refine a_iconst hΓ dX3_copyFrom_17 ?_
  refine a_bipush hΓ dX3_copyFrom_18 (by decide) ?_
  refine n_copy hΓ (Nat.le_trans (by decide) hh) ml_RX3_34 kd_9 kd_33 lz_9 lz_33 rfl (Nat.le_of_ble_eq_true rfl) dX3_copyFrom_20 ?_
  refine a_aload_n hΓ 1 dX3_copyFrom_23 rfl rfl ?_
  refine n_getR hΓ fl_RX3_15 cl_3 kd_8 lz_8 dX3_copyFrom_24 ft_3_2 rf_8_2 ?_
  refine a_iconst hΓ dX3_copyFrom_27 ?_
  refine a_aload_n hΓ 0 dX3_copyFrom_28 rfl rfl ?_
  refine n_getR hΓ fl_RX3_15 cl_3 kd_32 lz_32 dX3_copyFrom_29 ft_3_2 rf_32_2 ?_
  refine a_iconst hΓ dX3_copyFrom_32 ?_
  refine a_bipush hΓ dX3_copyFrom_33 (by decide) ?_
  refine n_copy hΓ (Nat.le_trans (by decide) hh) ml_RX3_34 kd_10 kd_34 lz_10 lz_34 rfl (Nat.le_of_ble_eq_true rfl) dX3_copyFrom_35 ?_
  refine a_aload_n hΓ 1 dX3_copyFrom_38 rfl rfl ?_
  refine n_getR hΓ fl_RX3_18 cl_3 kd_8 lz_8 dX3_copyFrom_39 ft_3_3 rf_8_3 ?_
  refine a_iconst hΓ dX3_copyFrom_42 ?_
  refine a_aload_n hΓ 0 dX3_copyFrom_43 rfl rfl ?_
  refine n_getR hΓ fl_RX3_18 cl_3 kd_32 lz_32 dX3_copyFrom_44 ft_3_3 rf_32_3 ?_
  refine a_iconst hΓ dX3_copyFrom_47 ?_
  refine a_bipush hΓ dX3_copyFrom_48 (by decide) ?_
  refine n_copy hΓ (Nat.le_trans (by decide) hh) ml_RX3_34 kd_11 kd_35 lz_11 lz_35 rfl (Nat.le_of_ble_eq_true rfl) dX3_copyFrom_50 ?_
  refine a_aload_n hΓ 1 dX3_copyFrom_53 rfl rfl ?_
  refine n_getR hΓ fl_RX3_21 cl_3 kd_8 lz_8 dX3_copyFrom_54 ft_3_4 rf_8_4 ?_
  refine a_iconst hΓ dX3_copyFrom_57 ?_
  refine a_aload_n hΓ 0 dX3_copyFrom_58 rfl rfl ?_
  refine n_getR hΓ fl_RX3_21 cl_3 kd_32 lz_32 dX3_copyFrom_59 ft_3_4 rf_32_4 ?_
  refine a_iconst hΓ dX3_copyFrom_62 ?_
  refine a_bipush hΓ dX3_copyFrom_63 (by decide) ?_
  refine n_copy hΓ (Nat.le_trans (by decide) hh) ml_RX3_34 kd_12 kd_36 lz_12 lz_36 rfl (Nat.le_of_ble_eq_true rfl) dX3_copyFrom_65 ?_
  refine a_aload_n hΓ 1 dX3_copyFrom_68 rfl rfl ?_
  refine n_getR hΓ fl_RX3_24 cl_3 kd_8 lz_8 dX3_copyFrom_69 ft_3_5 rf_8_5 ?_
  refine a_iconst hΓ dX3_copyFrom_72 ?_
  refine a_aload_n hΓ 0 dX3_copyFrom_73 rfl rfl ?_
  refine n_getR hΓ fl_RX3_24 cl_3 kd_32 lz_32 dX3_copyFrom_74 ft_3_5 rf_32_5 ?_
  refine a_iconst hΓ dX3_copyFrom_77 ?_
  refine a_bipush hΓ dX3_copyFrom_78 (by decide) ?_
  refine n_copy hΓ (Nat.le_trans (by decide) hh) ml_RX3_34 kd_13 kd_37 lz_13 lz_37 rfl (Nat.le_of_ble_eq_true rfl) dX3_copyFrom_80 ?_
  refine a_aload_n hΓ 1 dX3_copyFrom_83 rfl rfl ?_
  refine n_getR hΓ fl_RX3_27 cl_3 kd_8 lz_8 dX3_copyFrom_84 ft_3_6 rf_8_6 ?_
  refine a_iconst hΓ dX3_copyFrom_87 ?_
  refine a_aload_n hΓ 0 dX3_copyFrom_88 rfl rfl ?_
  refine n_getR hΓ fl_RX3_27 cl_3 kd_32 lz_32 dX3_copyFrom_89 ft_3_6 rf_32_6 ?_
  refine a_iconst hΓ dX3_copyFrom_92 ?_
  refine a_bipush hΓ dX3_copyFrom_93 (by decide) ?_
  refine n_copy hΓ (Nat.le_trans (by decide) hh) ml_RX3_34 kd_14 kd_38 lz_14 lz_38 rfl (Nat.le_of_ble_eq_true rfl) dX3_copyFrom_95 ?_
  exact a_vret hΓ hr dX3_copyFrom_98 ⟨_, rfl, rfl, h⟩
theorem ct_wX3_copyFrom (l : Launch) (g : Gp)  (M : Mm) (Q : Mm → Prop) (h : wX3_copyFrom  M Q) : Ct l g yX3_copyFrom cX3_copyFrom 2 none 1 0 0 [aR 32, aR 8] (NC, RF, M) (QV Q) :=
  ct_of (by decide) (Nat.le_of_ble_eq_true rfl) (fun Γ hg hl hr _ hΓ => by subst hg; subst hl; exact s_wX3_copyFrom hΓ (by decide) hr  M h)
def wX4_copyFrom_100 (Q : Mm → Prop) : Nat → Int → Mm → Prop
  | 0, _, _ => False
  | f + 1, v2, M => (inR v2) ∧
    (if v2 < 24 then
      (0 ≤ v2 ∧ v2 < 24) ∧
      ((M 22 v2) = 0 ∨ (M 22 v2) = 1) ∧
      ((M 23 v2) = 0 ∨ (M 23 v2) = 1) ∧
      (wX4_copyFrom_100 Q f) (v2 + 1) (up (up M 46 v2 (M 22 v2)) 47 v2 (M 23 v2))
    else
      Q M)
set_option maxHeartbeats 4000000 in
theorem s_wX4_copyFrom_100 {Γ : Cx} {h : Nat} (hΓ : Ok Γ cX4_copyFrom RX4 3 h 0 0) (hh : 1 ≤ h) (hr : (cxm Γ).sig.returnType = none) {Q : Mm → Prop}   : ∀ (f : Nat) (v2 : Int) (M : Mm), wX4_copyFrom_100 Q  f v2 M → Wa Γ 3 (Kf Γ (QV Q) 0 0) 0 0 100 [(0, aR 39), (1, aR 15), (2, aI v2)] [] (NC, RF, M) := by
  intro f
  induction f with
  | zero => intro v2 M h; exact h.elim
  | succ f ih =>
    intro v2 M h
    unfold wX4_copyFrom_100 at h
    refine a_iload_n hΓ 2 dX4_copyFrom_100 rfl rfl ?_
    refine a_bipush hΓ dX4_copyFrom_101 (by decide) ?_
    obtain ⟨g1, h⟩ := h
    refine a_icmp_ge (tgt := 136) hΓ g1 (inRl (by decide)) dX4_copyFrom_103 (by decide) (fun c2 => ?_) (fun c2 => ?_)
    · rw [if_pos c2] at h
      refine a_aload_n hΓ 0 dX4_copyFrom_106 rfl rfl ?_
      refine n_getR hΓ fl_RX4_30 cl_4 kd_39 lz_39 dX4_copyFrom_107 ft_4_7 rf_39_7 ?_
      refine a_iload_n hΓ 2 dX4_copyFrom_110 rfl rfl ?_
      refine a_aload_n hΓ 1 dX4_copyFrom_111 rfl rfl ?_
      refine n_getR hΓ fl_RX4_30 cl_4 kd_15 lz_15 dX4_copyFrom_112 ft_4_7 rf_15_7 ?_
      refine a_iload_n hΓ 2 dX4_copyFrom_115 rfl rfl ?_
      obtain ⟨g3, h⟩ := h
      refine n_bald (x := (M 22 v2)) hΓ dX4_copyFrom_116 kd_22 (Or.inl rfl) lz_22 g3 rfl ?_
      obtain ⟨g4, h⟩ := h
      refine a_zast hΓ rfl g4 dX4_copyFrom_117 kd_46 lz_46 g3 ?_
      refine a_aload_n hΓ 0 dX4_copyFrom_118 rfl rfl ?_
      refine n_getR hΓ fl_RX4_34 cl_4 kd_39 lz_39 dX4_copyFrom_119 ft_4_8 rf_39_8 ?_
      refine a_iload_n hΓ 2 dX4_copyFrom_122 rfl rfl ?_
      refine a_aload_n hΓ 1 dX4_copyFrom_123 rfl rfl ?_
      refine n_getR hΓ fl_RX4_34 cl_4 kd_15 lz_15 dX4_copyFrom_124 ft_4_8 rf_15_8 ?_
      refine a_iload_n hΓ 2 dX4_copyFrom_127 rfl rfl ?_
      refine n_bald (x := (M 23 v2)) hΓ dX4_copyFrom_128 kd_23 (Or.inl rfl) lz_23 g3 rfl ?_
      obtain ⟨g5, h⟩ := h
      refine a_zast hΓ rfl g5 dX4_copyFrom_129 kd_47 lz_47 g3 ?_
      refine a_iinc (ls' := [(2, aI (v2 + 1)), (0, aR 39), (1, aR 15)]) hΓ 2 dX4_copyFrom_130 rfl (by decide) rfl ?_
      refine a_goto (tgt := 100) hΓ dX4_copyFrom_133 (by decide) ?_
      refine a_sub (ls' := [(0, aR 39), (1, aR 15), (2, aI (v2 + 1))]) [1, 2, 0] rfl ?_
      exact ih (v2 + 1) (up (up M 46 v2 (M 22 v2)) 47 v2 (M 23 v2)) h
    · rw [if_neg c2] at h
      exact a_vret hΓ hr dX4_copyFrom_136 ⟨_, rfl, rfl, h⟩
def wX4_copyFrom  (M : Mm) (Q : Mm → Prop) : Prop :=
    ∃ n, wX4_copyFrom_100 Q n 0 (cpy (cpy (cpy (cpy (cpy (cpy (up M 39 0 (M 15 0)) 16 40 24) 17 41 24) 18 42 24) 19 43 24) 20 44 24) 21 45 24)
set_option maxHeartbeats 4000000 in
theorem s_wX4_copyFrom {Γ : Cx} {h : Nat} (hΓ : Ok Γ cX4_copyFrom RX4 3 h 0 0) (hh : 1 ≤ h) (hr : (cxm Γ).sig.returnType = none) {Q : Mm → Prop}  (M : Mm) (h : wX4_copyFrom  M Q) : Wa Γ 3 (Kf Γ (QV Q) 0 0) 0 0 0 [(0, aR 39), (1, aR 15)] [] (NC, RF, M) := by
  unfold wX4_copyFrom at h
  refine a_aload_n hΓ 0 dX4_copyFrom_0 rfl rfl ?_
  refine a_aload_n hΓ 1 dX4_copyFrom_1 rfl rfl ?_
  refine n_getI (x := (M 15 0)) hΓ fl_RX4_37 cl_4 kd_15 lz_15 dX4_copyFrom_2 (Or.inl ft_4_0) rfl ?_
  refine n_putI (j := 0) hΓ fl_RX4_37 cl_4 nf_4_0 kd_39 lz_39 dX4_copyFrom_5 (Or.inl ft_4_0) rfl ?_
  refine a_aload_n hΓ 1 dX4_copyFrom_8 rfl rfl ?_
  refine n_getR hΓ fl_RX4_9 cl_4 kd_15 lz_15 dX4_copyFrom_9 ft_4_1 rf_15_1 ?_
  refine a_iconst hΓ dX4_copyFrom_12 ?_
  refine a_aload_n hΓ 0 dX4_copyFrom_13 rfl rfl ?_
  refine n_getR hΓ fl_RX4_9 cl_4 kd_39 lz_39 dX4_copyFrom_14 ft_4_1 rf_39_1 ?_
  refine a_iconst hΓ dX4_copyFrom_17 ?_
  refine a_bipush hΓ dX4_copyFrom_18 (by decide) ?_
  refine n_copy hΓ (Nat.le_trans (by decide) hh) ml_RX4_41 kd_16 kd_40 lz_16 lz_40 rfl (Nat.le_of_ble_eq_true rfl) dX4_copyFrom_20 ?_
  refine a_aload_n hΓ 1 dX4_copyFrom_23 rfl rfl ?_
  refine n_getR hΓ fl_RX4_15 cl_4 kd_15 lz_15 dX4_copyFrom_24 ft_4_2 rf_15_2 ?_
  refine a_iconst hΓ dX4_copyFrom_27 ?_
  refine a_aload_n hΓ 0 dX4_copyFrom_28 rfl rfl ?_
  refine n_getR hΓ fl_RX4_15 cl_4 kd_39 lz_39 dX4_copyFrom_29 ft_4_2 rf_39_2 ?_
  refine a_iconst hΓ dX4_copyFrom_32 ?_
  refine a_bipush hΓ dX4_copyFrom_33 (by decide) ?_
  refine n_copy hΓ (Nat.le_trans (by decide) hh) ml_RX4_41 kd_17 kd_41 lz_17 lz_41 rfl (Nat.le_of_ble_eq_true rfl) dX4_copyFrom_35 ?_
  refine a_aload_n hΓ 1 dX4_copyFrom_38 rfl rfl ?_
  refine n_getR hΓ fl_RX4_18 cl_4 kd_15 lz_15 dX4_copyFrom_39 ft_4_3 rf_15_3 ?_
  refine a_iconst hΓ dX4_copyFrom_42 ?_
  refine a_aload_n hΓ 0 dX4_copyFrom_43 rfl rfl ?_
  refine n_getR hΓ fl_RX4_18 cl_4 kd_39 lz_39 dX4_copyFrom_44 ft_4_3 rf_39_3 ?_
  refine a_iconst hΓ dX4_copyFrom_47 ?_
  refine a_bipush hΓ dX4_copyFrom_48 (by decide) ?_
  refine n_copy hΓ (Nat.le_trans (by decide) hh) ml_RX4_41 kd_18 kd_42 lz_18 lz_42 rfl (Nat.le_of_ble_eq_true rfl) dX4_copyFrom_50 ?_
  refine a_aload_n hΓ 1 dX4_copyFrom_53 rfl rfl ?_
  refine n_getR hΓ fl_RX4_21 cl_4 kd_15 lz_15 dX4_copyFrom_54 ft_4_4 rf_15_4 ?_
  refine a_iconst hΓ dX4_copyFrom_57 ?_
  refine a_aload_n hΓ 0 dX4_copyFrom_58 rfl rfl ?_
  refine n_getR hΓ fl_RX4_21 cl_4 kd_39 lz_39 dX4_copyFrom_59 ft_4_4 rf_39_4 ?_
  refine a_iconst hΓ dX4_copyFrom_62 ?_
  refine a_bipush hΓ dX4_copyFrom_63 (by decide) ?_
  refine n_copy hΓ (Nat.le_trans (by decide) hh) ml_RX4_41 kd_19 kd_43 lz_19 lz_43 rfl (Nat.le_of_ble_eq_true rfl) dX4_copyFrom_65 ?_
  refine a_aload_n hΓ 1 dX4_copyFrom_68 rfl rfl ?_
  refine n_getR hΓ fl_RX4_24 cl_4 kd_15 lz_15 dX4_copyFrom_69 ft_4_5 rf_15_5 ?_
  refine a_iconst hΓ dX4_copyFrom_72 ?_
  refine a_aload_n hΓ 0 dX4_copyFrom_73 rfl rfl ?_
  refine n_getR hΓ fl_RX4_24 cl_4 kd_39 lz_39 dX4_copyFrom_74 ft_4_5 rf_39_5 ?_
  refine a_iconst hΓ dX4_copyFrom_77 ?_
  refine a_bipush hΓ dX4_copyFrom_78 (by decide) ?_
  refine n_copy hΓ (Nat.le_trans (by decide) hh) ml_RX4_41 kd_20 kd_44 lz_20 lz_44 rfl (Nat.le_of_ble_eq_true rfl) dX4_copyFrom_80 ?_
  refine a_aload_n hΓ 1 dX4_copyFrom_83 rfl rfl ?_
  refine n_getR hΓ fl_RX4_27 cl_4 kd_15 lz_15 dX4_copyFrom_84 ft_4_6 rf_15_6 ?_
  refine a_iconst hΓ dX4_copyFrom_87 ?_
  refine a_aload_n hΓ 0 dX4_copyFrom_88 rfl rfl ?_
  refine n_getR hΓ fl_RX4_27 cl_4 kd_39 lz_39 dX4_copyFrom_89 ft_4_6 rf_39_6 ?_
  refine a_iconst hΓ dX4_copyFrom_92 ?_
  refine a_bipush hΓ dX4_copyFrom_93 (by decide) ?_
  refine n_copy hΓ (Nat.le_trans (by decide) hh) ml_RX4_41 kd_21 kd_45 lz_21 lz_45 rfl (Nat.le_of_ble_eq_true rfl) dX4_copyFrom_95 ?_
  refine a_iconst hΓ dX4_copyFrom_98 ?_
  refine a_istore_n (ls' := [(2, aI 0), (0, aR 39), (1, aR 15)]) hΓ dX4_copyFrom_99 rfl (by decide) rfl ?_
  refine a_sub (ls' := [(0, aR 39), (1, aR 15), (2, aI 0)]) [1, 2, 0] rfl ?_
  obtain ⟨f1, h⟩ := h
  exact s_wX4_copyFrom_100 hΓ (Nat.le_trans (by decide) hh) hr  f1 0 (cpy (cpy (cpy (cpy (cpy (cpy (up M 39 0 (M 15 0)) 16 40 24) 17 41 24) 18 42 24) 19 43 24) 20 44 24) 21 45 24) h
theorem ct_wX4_copyFrom (l : Launch) (g : Gp)  (M : Mm) (Q : Mm → Prop) (h : wX4_copyFrom  M Q) : Ct l g yX4_copyFrom cX4_copyFrom 3 none 1 0 0 [aR 39, aR 15] (NC, RF, M) (QV Q) :=
  ct_of (by decide) (Nat.le_of_ble_eq_true rfl) (fun Γ hg hl hr _ hΓ => by subst hg; subst hl; exact s_wX4_copyFrom hΓ (by decide) hr  M h)
def wX0_copyFrom  (M : Mm) (Q : Mm → Prop) : Prop :=
    Bv (wX3_copyFrom (cpy (cpy (cpy (cpy (cpy (cpy (up (up (up (up (up (up (up M 25 0 (M 1 0)) 25 1 (M 1 1)) 25 2 (M 1 2)) 25 3 (M 1 3)) 25 4 (M 1 4)) 25 5 (M 1 5)) 25 6 (M 1 6)) 2 26 3) 3 27 10) 4 28 10) 5 29 40) 6 30 40) 7 31 40)) (fun M4 =>
    Bv (wX4_copyFrom M4) (fun M8 =>
    Q M8))
set_option maxHeartbeats 4000000 in
theorem s_wX0_copyFrom {Γ : Cx} {h : Nat} (hΓ : Ok Γ cX0_copyFrom RX0 2 h 0 0) (hh : 2 ≤ h) (hr : (cxm Γ).sig.returnType = none) {Q : Mm → Prop}  (M : Mm) (h : wX0_copyFrom  M Q) : Wa Γ 2 (Kf Γ (QV Q) 0 0) 0 0 0 [(0, aR 25), (1, aR 1)] [] (NC, RF, M) := by
  unfold wX0_copyFrom at h
  refine a_aload_n hΓ 0 dX0_copyFrom_0 rfl rfl ?_
  refine a_aload_n hΓ 1 dX0_copyFrom_1 rfl rfl ?_
  refine n_getI (x := (M 1 0)) hΓ fl_RX0_57 cl_0 kd_1 lz_1 dX0_copyFrom_2 (Or.inl ft_0_0) rfl ?_
  refine n_putI (j := 0) hΓ fl_RX0_57 cl_0 nf_0_0 kd_25 lz_25 dX0_copyFrom_5 (Or.inl ft_0_0) rfl ?_
  refine a_aload_n hΓ 0 dX0_copyFrom_8 rfl rfl ?_
  refine a_aload_n hΓ 1 dX0_copyFrom_9 rfl rfl ?_
  refine n_getI (x := (M 1 1)) hΓ fl_RX0_54 cl_0 kd_1 lz_1 dX0_copyFrom_10 (Or.inl ft_0_1) rfl ?_
  refine n_putI (j := 1) hΓ fl_RX0_54 cl_0 nf_0_1 kd_25 lz_25 dX0_copyFrom_13 (Or.inl ft_0_1) rfl ?_
  refine a_aload_n hΓ 0 dX0_copyFrom_16 rfl rfl ?_
  refine a_aload_n hΓ 1 dX0_copyFrom_17 rfl rfl ?_
  refine n_getI (x := (M 1 2)) hΓ fl_RX0_9 cl_0 kd_1 lz_1 dX0_copyFrom_18 (Or.inl ft_0_2) rfl ?_
  refine n_putI (j := 2) hΓ fl_RX0_9 cl_0 nf_0_2 kd_25 lz_25 dX0_copyFrom_21 (Or.inl ft_0_2) rfl ?_
  refine a_aload_n hΓ 0 dX0_copyFrom_24 rfl rfl ?_
  refine a_aload_n hΓ 1 dX0_copyFrom_25 rfl rfl ?_
  refine n_getI (x := (M 1 3)) hΓ fl_RX0_15 cl_0 kd_1 lz_1 dX0_copyFrom_26 (Or.inl ft_0_3) rfl ?_
  refine n_putI (j := 3) hΓ fl_RX0_15 cl_0 nf_0_3 kd_25 lz_25 dX0_copyFrom_29 (Or.inl ft_0_3) rfl ?_
  refine a_aload_n hΓ 0 dX0_copyFrom_32 rfl rfl ?_
  refine a_aload_n hΓ 1 dX0_copyFrom_33 rfl rfl ?_
  refine n_getI (x := (M 1 4)) hΓ fl_RX0_18 cl_0 kd_1 lz_1 dX0_copyFrom_34 (Or.inl ft_0_4) rfl ?_
  refine n_putI (j := 4) hΓ fl_RX0_18 cl_0 nf_0_4 kd_25 lz_25 dX0_copyFrom_37 (Or.inl ft_0_4) rfl ?_
  refine a_aload_n hΓ 0 dX0_copyFrom_40 rfl rfl ?_
  refine a_aload_n hΓ 1 dX0_copyFrom_41 rfl rfl ?_
  refine n_getL (x := (M 1 5)) hΓ fl_RX0_60 cl_0 kd_1 lz_1 dX0_copyFrom_42 ft_0_5 rfl ?_
  refine n_putL (j := 5) hΓ fl_RX0_60 cl_0 nf_0_5 kd_25 lz_25 dX0_copyFrom_45 ft_0_5 rfl ?_
  refine a_aload_n hΓ 0 dX0_copyFrom_48 rfl rfl ?_
  refine a_aload_n hΓ 1 dX0_copyFrom_49 rfl rfl ?_
  refine n_getL (x := (M 1 6)) hΓ fl_RX0_64 cl_0 kd_1 lz_1 dX0_copyFrom_50 ft_0_6 rfl ?_
  refine n_putL (j := 6) hΓ fl_RX0_64 cl_0 nf_0_6 kd_25 lz_25 dX0_copyFrom_53 ft_0_6 rfl ?_
  refine a_aload_n hΓ 1 dX0_copyFrom_56 rfl rfl ?_
  refine n_getR hΓ fl_RX0_21 cl_0 kd_1 lz_1 dX0_copyFrom_57 ft_0_7 rf_1_7 ?_
  refine a_iconst hΓ dX0_copyFrom_60 ?_
  refine a_aload_n hΓ 0 dX0_copyFrom_61 rfl rfl ?_
  refine n_getR hΓ fl_RX0_21 cl_0 kd_25 lz_25 dX0_copyFrom_62 ft_0_7 rf_25_7 ?_
  refine a_iconst hΓ dX0_copyFrom_65 ?_
  refine a_iconst hΓ dX0_copyFrom_66 ?_
  refine n_copy hΓ (Nat.le_trans (by decide) hh) ml_RX0_67 kd_2 kd_26 lz_2 lz_26 rfl (Nat.le_of_ble_eq_true rfl) dX0_copyFrom_67 ?_
  refine a_aload_n hΓ 1 dX0_copyFrom_70 rfl rfl ?_
  refine n_getR hΓ fl_RX0_25 cl_0 kd_1 lz_1 dX0_copyFrom_71 ft_0_8 rf_1_8 ?_
  refine a_iconst hΓ dX0_copyFrom_74 ?_
  refine a_aload_n hΓ 0 dX0_copyFrom_75 rfl rfl ?_
  refine n_getR hΓ fl_RX0_25 cl_0 kd_25 lz_25 dX0_copyFrom_76 ft_0_8 rf_25_8 ?_
  refine a_iconst hΓ dX0_copyFrom_79 ?_
  refine a_bipush hΓ dX0_copyFrom_80 (by decide) ?_
  refine n_copy hΓ (Nat.le_trans (by decide) hh) ml_RX0_67 kd_3 kd_27 lz_3 lz_27 rfl (Nat.le_of_ble_eq_true rfl) dX0_copyFrom_82 ?_
  refine a_aload_n hΓ 1 dX0_copyFrom_85 rfl rfl ?_
  refine n_getR hΓ fl_RX0_28 cl_0 kd_1 lz_1 dX0_copyFrom_86 ft_0_9 rf_1_9 ?_
  refine a_iconst hΓ dX0_copyFrom_89 ?_
  refine a_aload_n hΓ 0 dX0_copyFrom_90 rfl rfl ?_
  refine n_getR hΓ fl_RX0_28 cl_0 kd_25 lz_25 dX0_copyFrom_91 ft_0_9 rf_25_9 ?_
  refine a_iconst hΓ dX0_copyFrom_94 ?_
  refine a_bipush hΓ dX0_copyFrom_95 (by decide) ?_
  refine n_copy hΓ (Nat.le_trans (by decide) hh) ml_RX0_67 kd_4 kd_28 lz_4 lz_28 rfl (Nat.le_of_ble_eq_true rfl) dX0_copyFrom_97 ?_
  refine a_aload_n hΓ 1 dX0_copyFrom_100 rfl rfl ?_
  refine n_getR hΓ fl_RX0_31 cl_0 kd_1 lz_1 dX0_copyFrom_101 ft_0_10 rf_1_10 ?_
  refine a_iconst hΓ dX0_copyFrom_104 ?_
  refine a_aload_n hΓ 0 dX0_copyFrom_105 rfl rfl ?_
  refine n_getR hΓ fl_RX0_31 cl_0 kd_25 lz_25 dX0_copyFrom_106 ft_0_10 rf_25_10 ?_
  refine a_iconst hΓ dX0_copyFrom_109 ?_
  refine a_bipush hΓ dX0_copyFrom_110 (by decide) ?_
  refine n_copy hΓ (Nat.le_trans (by decide) hh) ml_RX0_67 kd_5 kd_29 lz_5 lz_29 rfl (Nat.le_of_ble_eq_true rfl) dX0_copyFrom_112 ?_
  refine a_aload_n hΓ 1 dX0_copyFrom_115 rfl rfl ?_
  refine n_getR hΓ fl_RX0_34 cl_0 kd_1 lz_1 dX0_copyFrom_116 ft_0_11 rf_1_11 ?_
  refine a_iconst hΓ dX0_copyFrom_119 ?_
  refine a_aload_n hΓ 0 dX0_copyFrom_120 rfl rfl ?_
  refine n_getR hΓ fl_RX0_34 cl_0 kd_25 lz_25 dX0_copyFrom_121 ft_0_11 rf_25_11 ?_
  refine a_iconst hΓ dX0_copyFrom_124 ?_
  refine a_bipush hΓ dX0_copyFrom_125 (by decide) ?_
  refine n_copy hΓ (Nat.le_trans (by decide) hh) ml_RX0_67 kd_6 kd_30 lz_6 lz_30 rfl (Nat.le_of_ble_eq_true rfl) dX0_copyFrom_127 ?_
  refine a_aload_n hΓ 1 dX0_copyFrom_130 rfl rfl ?_
  refine n_getR hΓ fl_RX0_37 cl_0 kd_1 lz_1 dX0_copyFrom_131 ft_0_12 rf_1_12 ?_
  refine a_iconst hΓ dX0_copyFrom_134 ?_
  refine a_aload_n hΓ 0 dX0_copyFrom_135 rfl rfl ?_
  refine n_getR hΓ fl_RX0_37 cl_0 kd_25 lz_25 dX0_copyFrom_136 ft_0_12 rf_25_12 ?_
  refine a_iconst hΓ dX0_copyFrom_139 ?_
  refine a_bipush hΓ dX0_copyFrom_140 (by decide) ?_
  refine n_copy hΓ (Nat.le_trans (by decide) hh) ml_RX0_67 kd_7 kd_31 lz_7 lz_31 rfl (Nat.le_of_ble_eq_true rfl) dX0_copyFrom_142 ?_
  refine a_aload_n hΓ 0 dX0_copyFrom_145 rfl rfl ?_
  refine n_getR hΓ fl_RX0_43 cl_0 kd_25 lz_25 dX0_copyFrom_146 ft_0_13 rf_25_13 ?_
  refine a_aload_n hΓ 1 dX0_copyFrom_149 rfl rfl ?_
  refine n_getR hΓ fl_RX0_43 cl_0 kd_1 lz_1 dX0_copyFrom_150 ft_0_13 rf_1_13 ?_
  obtain ⟨P1, q2, h⟩ := h
  refine n_callV (c := 32) (av := [aR 8]) (st := []) hΓ (ct_wX3_copyFrom _ _  (cpy (cpy (cpy (cpy (cpy (cpy (up (up (up (up (up (up (up M 25 0 (M 1 0)) 25 1 (M 1 1)) 25 2 (M 1 2)) 25 3 (M 1 3)) 25 4 (M 1 4)) 25 5 (M 1 5)) 25 6 (M 1 6)) 2 26 3) 3 27 10) 4 28 10) 5 29 40) 6 30 40) 7 31 40) P1 q2) my_X3_copyFrom ml_RX0_73 ni_X3_copyFrom kd_32 rfl lz_32 rfl (Nat.le_trans (by decide) hh) (by decide) (Nat.le_of_ble_eq_true rfl) rfl dX0_copyFrom_153 (fun v Z' hq => ?_)
  obtain ⟨M4, rfl, rfl, hq⟩ := hq
  have h := h M4 hq
  dsimp only at h
  refine a_aload_n hΓ 0 dX0_copyFrom_156 rfl rfl ?_
  refine n_getR hΓ fl_RX0_50 cl_0 kd_25 lz_25 dX0_copyFrom_157 ft_0_14 rf_25_14 ?_
  refine a_aload_n hΓ 1 dX0_copyFrom_160 rfl rfl ?_
  refine n_getR hΓ fl_RX0_50 cl_0 kd_1 lz_1 dX0_copyFrom_161 ft_0_14 rf_1_14 ?_
  obtain ⟨P5, q6, h⟩ := h
  refine n_callV (c := 39) (av := [aR 15]) (st := []) hΓ (ct_wX4_copyFrom _ _  M4 P5 q6) my_X4_copyFrom ml_RX0_77 ni_X4_copyFrom kd_39 rfl lz_39 rfl (Nat.le_trans (by decide) hh) (by decide) (Nat.le_of_ble_eq_true rfl) rfl dX0_copyFrom_164 (fun v Z' hq => ?_)
  obtain ⟨M8, rfl, rfl, hq⟩ := hq
  have h := h M8 hq
  dsimp only at h
  exact a_vret hΓ hr dX0_copyFrom_167 ⟨_, rfl, rfl, h⟩
theorem ct_wX0_copyFrom (l : Launch) (g : Gp)  (M : Mm) (Q : Mm → Prop) (h : wX0_copyFrom  M Q) : Ct l g yX0_copyFrom cX0_copyFrom 2 none 2 0 0 [aR 25, aR 1] (NC, RF, M) (QV Q) :=
  ct_of (by decide) (Nat.le_of_ble_eq_true rfl) (fun Γ hg hl hr _ hΓ => by subst hg; subst hl; exact s_wX0_copyFrom hΓ (by decide) hr  M h)
def wX3_copyFrom_2  (M : Mm) (Q : Mm → Prop) : Prop :=
    Q (cpy (cpy (cpy (cpy (cpy (cpy (up M 55 0 (M 8 0)) 9 56 60) 10 57 60) 11 58 60) 12 59 60) 13 60 60) 14 61 60)
set_option maxHeartbeats 4000000 in
theorem s_wX3_copyFrom_2 {Γ : Cx} {h : Nat} (hΓ : Ok Γ cX3_copyFrom RX3 2 h 0 0) (hh : 1 ≤ h) (hr : (cxm Γ).sig.returnType = none) {Q : Mm → Prop}  (M : Mm) (h : wX3_copyFrom_2  M Q) : Wa Γ 2 (Kf Γ (QV Q) 0 0) 0 0 0 [(0, aR 55), (1, aR 8)] [] (NC, RF, M) := by
  unfold wX3_copyFrom_2 at h
  refine a_aload_n hΓ 0 dX3_copyFrom_0 rfl rfl ?_
  refine a_aload_n hΓ 1 dX3_copyFrom_1 rfl rfl ?_
  refine n_getI (x := (M 8 0)) hΓ fl_RX3_30 cl_3 kd_8 lz_8 dX3_copyFrom_2 (Or.inl ft_3_0) rfl ?_
  refine n_putI (j := 0) hΓ fl_RX3_30 cl_3 nf_3_0 kd_55 lz_55 dX3_copyFrom_5 (Or.inl ft_3_0) rfl ?_
  refine a_aload_n hΓ 1 dX3_copyFrom_8 rfl rfl ?_
  refine n_getR hΓ fl_RX3_9 cl_3 kd_8 lz_8 dX3_copyFrom_9 ft_3_1 rf_8_1 ?_
  refine a_iconst hΓ dX3_copyFrom_12 ?_
  refine a_aload_n hΓ 0 dX3_copyFrom_13 rfl rfl ?_
  refine n_getR hΓ fl_RX3_9 cl_3 kd_55 lz_55 dX3_copyFrom_14 ft_3_1 rf_55_1 ?_
  refine a_iconst hΓ dX3_copyFrom_17 ?_
  refine a_bipush hΓ dX3_copyFrom_18 (by decide) ?_
  refine n_copy hΓ (Nat.le_trans (by decide) hh) ml_RX3_34 kd_9 kd_56 lz_9 lz_56 rfl (Nat.le_of_ble_eq_true rfl) dX3_copyFrom_20 ?_
  refine a_aload_n hΓ 1 dX3_copyFrom_23 rfl rfl ?_
  refine n_getR hΓ fl_RX3_15 cl_3 kd_8 lz_8 dX3_copyFrom_24 ft_3_2 rf_8_2 ?_
  refine a_iconst hΓ dX3_copyFrom_27 ?_
  refine a_aload_n hΓ 0 dX3_copyFrom_28 rfl rfl ?_
  refine n_getR hΓ fl_RX3_15 cl_3 kd_55 lz_55 dX3_copyFrom_29 ft_3_2 rf_55_2 ?_
  refine a_iconst hΓ dX3_copyFrom_32 ?_
  refine a_bipush hΓ dX3_copyFrom_33 (by decide) ?_
  refine n_copy hΓ (Nat.le_trans (by decide) hh) ml_RX3_34 kd_10 kd_57 lz_10 lz_57 rfl (Nat.le_of_ble_eq_true rfl) dX3_copyFrom_35 ?_
  refine a_aload_n hΓ 1 dX3_copyFrom_38 rfl rfl ?_
  refine n_getR hΓ fl_RX3_18 cl_3 kd_8 lz_8 dX3_copyFrom_39 ft_3_3 rf_8_3 ?_
  refine a_iconst hΓ dX3_copyFrom_42 ?_
  refine a_aload_n hΓ 0 dX3_copyFrom_43 rfl rfl ?_
  refine n_getR hΓ fl_RX3_18 cl_3 kd_55 lz_55 dX3_copyFrom_44 ft_3_3 rf_55_3 ?_
  refine a_iconst hΓ dX3_copyFrom_47 ?_
  refine a_bipush hΓ dX3_copyFrom_48 (by decide) ?_
  refine n_copy hΓ (Nat.le_trans (by decide) hh) ml_RX3_34 kd_11 kd_58 lz_11 lz_58 rfl (Nat.le_of_ble_eq_true rfl) dX3_copyFrom_50 ?_
  refine a_aload_n hΓ 1 dX3_copyFrom_53 rfl rfl ?_
  refine n_getR hΓ fl_RX3_21 cl_3 kd_8 lz_8 dX3_copyFrom_54 ft_3_4 rf_8_4 ?_
  refine a_iconst hΓ dX3_copyFrom_57 ?_
  refine a_aload_n hΓ 0 dX3_copyFrom_58 rfl rfl ?_
  refine n_getR hΓ fl_RX3_21 cl_3 kd_55 lz_55 dX3_copyFrom_59 ft_3_4 rf_55_4 ?_
  refine a_iconst hΓ dX3_copyFrom_62 ?_
  refine a_bipush hΓ dX3_copyFrom_63 (by decide) ?_
  refine n_copy hΓ (Nat.le_trans (by decide) hh) ml_RX3_34 kd_12 kd_59 lz_12 lz_59 rfl (Nat.le_of_ble_eq_true rfl) dX3_copyFrom_65 ?_
  refine a_aload_n hΓ 1 dX3_copyFrom_68 rfl rfl ?_
  refine n_getR hΓ fl_RX3_24 cl_3 kd_8 lz_8 dX3_copyFrom_69 ft_3_5 rf_8_5 ?_
  refine a_iconst hΓ dX3_copyFrom_72 ?_
  refine a_aload_n hΓ 0 dX3_copyFrom_73 rfl rfl ?_
  refine n_getR hΓ fl_RX3_24 cl_3 kd_55 lz_55 dX3_copyFrom_74 ft_3_5 rf_55_5 ?_
  refine a_iconst hΓ dX3_copyFrom_77 ?_
  refine a_bipush hΓ dX3_copyFrom_78 (by decide) ?_
  refine n_copy hΓ (Nat.le_trans (by decide) hh) ml_RX3_34 kd_13 kd_60 lz_13 lz_60 rfl (Nat.le_of_ble_eq_true rfl) dX3_copyFrom_80 ?_
  refine a_aload_n hΓ 1 dX3_copyFrom_83 rfl rfl ?_
  refine n_getR hΓ fl_RX3_27 cl_3 kd_8 lz_8 dX3_copyFrom_84 ft_3_6 rf_8_6 ?_
  refine a_iconst hΓ dX3_copyFrom_87 ?_
  refine a_aload_n hΓ 0 dX3_copyFrom_88 rfl rfl ?_
  refine n_getR hΓ fl_RX3_27 cl_3 kd_55 lz_55 dX3_copyFrom_89 ft_3_6 rf_55_6 ?_
  refine a_iconst hΓ dX3_copyFrom_92 ?_
  refine a_bipush hΓ dX3_copyFrom_93 (by decide) ?_
  refine n_copy hΓ (Nat.le_trans (by decide) hh) ml_RX3_34 kd_14 kd_61 lz_14 lz_61 rfl (Nat.le_of_ble_eq_true rfl) dX3_copyFrom_95 ?_
  exact a_vret hΓ hr dX3_copyFrom_98 ⟨_, rfl, rfl, h⟩
theorem ct_wX3_copyFrom_2 (l : Launch) (g : Gp)  (M : Mm) (Q : Mm → Prop) (h : wX3_copyFrom_2  M Q) : Ct l g yX3_copyFrom cX3_copyFrom 2 none 1 0 0 [aR 55, aR 8] (NC, RF, M) (QV Q) :=
  ct_of (by decide) (Nat.le_of_ble_eq_true rfl) (fun Γ hg hl hr _ hΓ => by subst hg; subst hl; exact s_wX3_copyFrom_2 hΓ (by decide) hr  M h)
def wX4_copyFrom_2_100 (Q : Mm → Prop) : Nat → Int → Mm → Prop
  | 0, _, _ => False
  | f + 1, v2, M => (inR v2) ∧
    (if v2 < 24 then
      (0 ≤ v2 ∧ v2 < 24) ∧
      ((M 22 v2) = 0 ∨ (M 22 v2) = 1) ∧
      ((M 23 v2) = 0 ∨ (M 23 v2) = 1) ∧
      (wX4_copyFrom_2_100 Q f) (v2 + 1) (up (up M 69 v2 (M 22 v2)) 70 v2 (M 23 v2))
    else
      Q M)
set_option maxHeartbeats 4000000 in
theorem s_wX4_copyFrom_2_100 {Γ : Cx} {h : Nat} (hΓ : Ok Γ cX4_copyFrom RX4 3 h 0 0) (hh : 1 ≤ h) (hr : (cxm Γ).sig.returnType = none) {Q : Mm → Prop}   : ∀ (f : Nat) (v2 : Int) (M : Mm), wX4_copyFrom_2_100 Q  f v2 M → Wa Γ 3 (Kf Γ (QV Q) 0 0) 0 0 100 [(0, aR 62), (1, aR 15), (2, aI v2)] [] (NC, RF, M) := by
  intro f
  induction f with
  | zero => intro v2 M h; exact h.elim
  | succ f ih =>
    intro v2 M h
    unfold wX4_copyFrom_2_100 at h
    refine a_iload_n hΓ 2 dX4_copyFrom_100 rfl rfl ?_
    refine a_bipush hΓ dX4_copyFrom_101 (by decide) ?_
    obtain ⟨g1, h⟩ := h
    refine a_icmp_ge (tgt := 136) hΓ g1 (inRl (by decide)) dX4_copyFrom_103 (by decide) (fun c2 => ?_) (fun c2 => ?_)
    · rw [if_pos c2] at h
      refine a_aload_n hΓ 0 dX4_copyFrom_106 rfl rfl ?_
      refine n_getR hΓ fl_RX4_30 cl_4 kd_62 lz_62 dX4_copyFrom_107 ft_4_7 rf_62_7 ?_
      refine a_iload_n hΓ 2 dX4_copyFrom_110 rfl rfl ?_
      refine a_aload_n hΓ 1 dX4_copyFrom_111 rfl rfl ?_
      refine n_getR hΓ fl_RX4_30 cl_4 kd_15 lz_15 dX4_copyFrom_112 ft_4_7 rf_15_7 ?_
      refine a_iload_n hΓ 2 dX4_copyFrom_115 rfl rfl ?_
      obtain ⟨g3, h⟩ := h
      refine n_bald (x := (M 22 v2)) hΓ dX4_copyFrom_116 kd_22 (Or.inl rfl) lz_22 g3 rfl ?_
      obtain ⟨g4, h⟩ := h
      refine a_zast hΓ rfl g4 dX4_copyFrom_117 kd_69 lz_69 g3 ?_
      refine a_aload_n hΓ 0 dX4_copyFrom_118 rfl rfl ?_
      refine n_getR hΓ fl_RX4_34 cl_4 kd_62 lz_62 dX4_copyFrom_119 ft_4_8 rf_62_8 ?_
      refine a_iload_n hΓ 2 dX4_copyFrom_122 rfl rfl ?_
      refine a_aload_n hΓ 1 dX4_copyFrom_123 rfl rfl ?_
      refine n_getR hΓ fl_RX4_34 cl_4 kd_15 lz_15 dX4_copyFrom_124 ft_4_8 rf_15_8 ?_
      refine a_iload_n hΓ 2 dX4_copyFrom_127 rfl rfl ?_
      refine n_bald (x := (M 23 v2)) hΓ dX4_copyFrom_128 kd_23 (Or.inl rfl) lz_23 g3 rfl ?_
      obtain ⟨g5, h⟩ := h
      refine a_zast hΓ rfl g5 dX4_copyFrom_129 kd_70 lz_70 g3 ?_
      refine a_iinc (ls' := [(2, aI (v2 + 1)), (0, aR 62), (1, aR 15)]) hΓ 2 dX4_copyFrom_130 rfl (by decide) rfl ?_
      refine a_goto (tgt := 100) hΓ dX4_copyFrom_133 (by decide) ?_
      refine a_sub (ls' := [(0, aR 62), (1, aR 15), (2, aI (v2 + 1))]) [1, 2, 0] rfl ?_
      exact ih (v2 + 1) (up (up M 69 v2 (M 22 v2)) 70 v2 (M 23 v2)) h
    · rw [if_neg c2] at h
      exact a_vret hΓ hr dX4_copyFrom_136 ⟨_, rfl, rfl, h⟩
def wX4_copyFrom_2  (M : Mm) (Q : Mm → Prop) : Prop :=
    ∃ n, wX4_copyFrom_2_100 Q n 0 (cpy (cpy (cpy (cpy (cpy (cpy (up M 62 0 (M 15 0)) 16 63 24) 17 64 24) 18 65 24) 19 66 24) 20 67 24) 21 68 24)
set_option maxHeartbeats 4000000 in
theorem s_wX4_copyFrom_2 {Γ : Cx} {h : Nat} (hΓ : Ok Γ cX4_copyFrom RX4 3 h 0 0) (hh : 1 ≤ h) (hr : (cxm Γ).sig.returnType = none) {Q : Mm → Prop}  (M : Mm) (h : wX4_copyFrom_2  M Q) : Wa Γ 3 (Kf Γ (QV Q) 0 0) 0 0 0 [(0, aR 62), (1, aR 15)] [] (NC, RF, M) := by
  unfold wX4_copyFrom_2 at h
  refine a_aload_n hΓ 0 dX4_copyFrom_0 rfl rfl ?_
  refine a_aload_n hΓ 1 dX4_copyFrom_1 rfl rfl ?_
  refine n_getI (x := (M 15 0)) hΓ fl_RX4_37 cl_4 kd_15 lz_15 dX4_copyFrom_2 (Or.inl ft_4_0) rfl ?_
  refine n_putI (j := 0) hΓ fl_RX4_37 cl_4 nf_4_0 kd_62 lz_62 dX4_copyFrom_5 (Or.inl ft_4_0) rfl ?_
  refine a_aload_n hΓ 1 dX4_copyFrom_8 rfl rfl ?_
  refine n_getR hΓ fl_RX4_9 cl_4 kd_15 lz_15 dX4_copyFrom_9 ft_4_1 rf_15_1 ?_
  refine a_iconst hΓ dX4_copyFrom_12 ?_
  refine a_aload_n hΓ 0 dX4_copyFrom_13 rfl rfl ?_
  refine n_getR hΓ fl_RX4_9 cl_4 kd_62 lz_62 dX4_copyFrom_14 ft_4_1 rf_62_1 ?_
  refine a_iconst hΓ dX4_copyFrom_17 ?_
  refine a_bipush hΓ dX4_copyFrom_18 (by decide) ?_
  refine n_copy hΓ (Nat.le_trans (by decide) hh) ml_RX4_41 kd_16 kd_63 lz_16 lz_63 rfl (Nat.le_of_ble_eq_true rfl) dX4_copyFrom_20 ?_
  refine a_aload_n hΓ 1 dX4_copyFrom_23 rfl rfl ?_
  refine n_getR hΓ fl_RX4_15 cl_4 kd_15 lz_15 dX4_copyFrom_24 ft_4_2 rf_15_2 ?_
  refine a_iconst hΓ dX4_copyFrom_27 ?_
  refine a_aload_n hΓ 0 dX4_copyFrom_28 rfl rfl ?_
  refine n_getR hΓ fl_RX4_15 cl_4 kd_62 lz_62 dX4_copyFrom_29 ft_4_2 rf_62_2 ?_
  refine a_iconst hΓ dX4_copyFrom_32 ?_
  refine a_bipush hΓ dX4_copyFrom_33 (by decide) ?_
  refine n_copy hΓ (Nat.le_trans (by decide) hh) ml_RX4_41 kd_17 kd_64 lz_17 lz_64 rfl (Nat.le_of_ble_eq_true rfl) dX4_copyFrom_35 ?_
  refine a_aload_n hΓ 1 dX4_copyFrom_38 rfl rfl ?_
  refine n_getR hΓ fl_RX4_18 cl_4 kd_15 lz_15 dX4_copyFrom_39 ft_4_3 rf_15_3 ?_
  refine a_iconst hΓ dX4_copyFrom_42 ?_
  refine a_aload_n hΓ 0 dX4_copyFrom_43 rfl rfl ?_
  refine n_getR hΓ fl_RX4_18 cl_4 kd_62 lz_62 dX4_copyFrom_44 ft_4_3 rf_62_3 ?_
  refine a_iconst hΓ dX4_copyFrom_47 ?_
  refine a_bipush hΓ dX4_copyFrom_48 (by decide) ?_
  refine n_copy hΓ (Nat.le_trans (by decide) hh) ml_RX4_41 kd_18 kd_65 lz_18 lz_65 rfl (Nat.le_of_ble_eq_true rfl) dX4_copyFrom_50 ?_
  refine a_aload_n hΓ 1 dX4_copyFrom_53 rfl rfl ?_
  refine n_getR hΓ fl_RX4_21 cl_4 kd_15 lz_15 dX4_copyFrom_54 ft_4_4 rf_15_4 ?_
  refine a_iconst hΓ dX4_copyFrom_57 ?_
  refine a_aload_n hΓ 0 dX4_copyFrom_58 rfl rfl ?_
  refine n_getR hΓ fl_RX4_21 cl_4 kd_62 lz_62 dX4_copyFrom_59 ft_4_4 rf_62_4 ?_
  refine a_iconst hΓ dX4_copyFrom_62 ?_
  refine a_bipush hΓ dX4_copyFrom_63 (by decide) ?_
  refine n_copy hΓ (Nat.le_trans (by decide) hh) ml_RX4_41 kd_19 kd_66 lz_19 lz_66 rfl (Nat.le_of_ble_eq_true rfl) dX4_copyFrom_65 ?_
  refine a_aload_n hΓ 1 dX4_copyFrom_68 rfl rfl ?_
  refine n_getR hΓ fl_RX4_24 cl_4 kd_15 lz_15 dX4_copyFrom_69 ft_4_5 rf_15_5 ?_
  refine a_iconst hΓ dX4_copyFrom_72 ?_
  refine a_aload_n hΓ 0 dX4_copyFrom_73 rfl rfl ?_
  refine n_getR hΓ fl_RX4_24 cl_4 kd_62 lz_62 dX4_copyFrom_74 ft_4_5 rf_62_5 ?_
  refine a_iconst hΓ dX4_copyFrom_77 ?_
  refine a_bipush hΓ dX4_copyFrom_78 (by decide) ?_
  refine n_copy hΓ (Nat.le_trans (by decide) hh) ml_RX4_41 kd_20 kd_67 lz_20 lz_67 rfl (Nat.le_of_ble_eq_true rfl) dX4_copyFrom_80 ?_
  refine a_aload_n hΓ 1 dX4_copyFrom_83 rfl rfl ?_
  refine n_getR hΓ fl_RX4_27 cl_4 kd_15 lz_15 dX4_copyFrom_84 ft_4_6 rf_15_6 ?_
  refine a_iconst hΓ dX4_copyFrom_87 ?_
  refine a_aload_n hΓ 0 dX4_copyFrom_88 rfl rfl ?_
  refine n_getR hΓ fl_RX4_27 cl_4 kd_62 lz_62 dX4_copyFrom_89 ft_4_6 rf_62_6 ?_
  refine a_iconst hΓ dX4_copyFrom_92 ?_
  refine a_bipush hΓ dX4_copyFrom_93 (by decide) ?_
  refine n_copy hΓ (Nat.le_trans (by decide) hh) ml_RX4_41 kd_21 kd_68 lz_21 lz_68 rfl (Nat.le_of_ble_eq_true rfl) dX4_copyFrom_95 ?_
  refine a_iconst hΓ dX4_copyFrom_98 ?_
  refine a_istore_n (ls' := [(2, aI 0), (0, aR 62), (1, aR 15)]) hΓ dX4_copyFrom_99 rfl (by decide) rfl ?_
  refine a_sub (ls' := [(0, aR 62), (1, aR 15), (2, aI 0)]) [1, 2, 0] rfl ?_
  obtain ⟨f1, h⟩ := h
  exact s_wX4_copyFrom_2_100 hΓ (Nat.le_trans (by decide) hh) hr  f1 0 (cpy (cpy (cpy (cpy (cpy (cpy (up M 62 0 (M 15 0)) 16 63 24) 17 64 24) 18 65 24) 19 66 24) 20 67 24) 21 68 24) h
theorem ct_wX4_copyFrom_2 (l : Launch) (g : Gp)  (M : Mm) (Q : Mm → Prop) (h : wX4_copyFrom_2  M Q) : Ct l g yX4_copyFrom cX4_copyFrom 3 none 1 0 0 [aR 62, aR 15] (NC, RF, M) (QV Q) :=
  ct_of (by decide) (Nat.le_of_ble_eq_true rfl) (fun Γ hg hl hr _ hΓ => by subst hg; subst hl; exact s_wX4_copyFrom_2 hΓ (by decide) hr  M h)
