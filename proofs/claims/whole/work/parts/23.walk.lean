/-! ===== printed by tools/gen.py ===== -/
def wX1_allKeys_5 (Q : Int → Mm → Prop) (v1 : Int) : Nat → Int → Int → Mm → Prop
  | 0, _, _, _ => False
  | f + 1, v2, v4, M => (inR v4) ∧
    (if v4 < 24 then
      (if (landI (shrI v1 v4) 1) = 1 then
        Bd (wX1_keyOf v4 M) (fun r6 M7 =>
        (wX1_allKeys_5 Q v1 f) (v2 + r6) (v4 + 1) M7)
      else
        (wX1_allKeys_5 Q v1 f) v2 (v4 + 1) M)
    else
      Q v2 M)
set_option maxHeartbeats 4000000 in
theorem s_wX1_allKeys_5 {Γ : Cx} {h : Nat} (hΓ : Ok Γ cX1_allKeys RX1 5 h 0 0) (hh : 2 ≤ h) (hr : (cxm Γ).sig.returnType = (some .long)) {Q : Int → Mm → Prop} {v1 : Int}   : ∀ (f : Nat) (v2 : Int) (v4 : Int) (M : Mm), wX1_allKeys_5 Q v1 f v2 v4 M → Wa Γ 5 (Kf Γ (QL Q) 0 0) 0 0 5 [(0, aR 85), (1, aI v1), (2, aL v2), (4, aI v4)] [] (NC, RF, M) := by
  intro f
  induction f with
  | zero => intro v2 v4 M h; exact h.elim
  | succ f ih =>
    intro v2 v4 M h
    unfold wX1_allKeys_5 at h
    refine a_iload hΓ 3 dX1_allKeys_5 rfl ?_
    refine a_bipush hΓ dX1_allKeys_7 (by decide) ?_
    obtain ⟨g1, h⟩ := h
    refine a_icmp_ge (tgt := 37) hΓ g1 (inRl (by decide)) dX1_allKeys_9 (by decide) (fun c2 => ?_) (fun c2 => ?_)
    · rw [if_pos c2] at h
      refine a_iload_n hΓ 1 dX1_allKeys_12 rfl rfl ?_
      refine a_iload hΓ 3 dX1_allKeys_13 rfl ?_
      refine a_ishr hΓ dX1_allKeys_15 ?_
      refine a_iconst hΓ dX1_allKeys_16 ?_
      refine a_iand hΓ dX1_allKeys_17 ?_
      refine a_iconst hΓ dX1_allKeys_18 ?_
      refine a_icmp_ne (tgt := 31) hΓ (inR_land _ _) (inRl (by decide)) dX1_allKeys_19 (by decide) (fun c3 => ?_) (fun c3 => ?_)
      · rw [if_pos c3] at h
        refine a_lload_n hΓ 2 dX1_allKeys_22 rfl rfl ?_
        refine a_aload_n hΓ 0 dX1_allKeys_23 rfl rfl ?_
        refine a_iload hΓ 3 dX1_allKeys_24 rfl ?_
        obtain ⟨P4, q5, h⟩ := h
        refine n_callV (c := 85) (av := [aI v4]) (st := [aL v2]) hΓ (ct_wX1_keyOf _ _ v4 M P4 q5) my_X1_keyOf ml_RX1_57 ni_X1_keyOf kd_85 rfl lz_85 rfl (Nat.le_trans (by decide) hh) (by decide) (Nat.le_of_ble_eq_true rfl) rfl dX1_allKeys_26 (fun v Z' hq => ?_)
        obtain ⟨r6, M7, rfl, rfl, hq⟩ := hq
        have h := h r6 M7 hq
        dsimp only at h
        refine a_ladd hΓ dX1_allKeys_29 ?_
        refine a_lstore_n (ls' := [(2, aL (v2 + r6)), (0, aR 85), (1, aI v1), (4, aI v4)]) hΓ dX1_allKeys_30 rfl (by decide) rfl ?_
        refine a_iinc (ls' := [(4, aI (v4 + 1)), (2, aL (v2 + r6)), (0, aR 85), (1, aI v1)]) hΓ 3 dX1_allKeys_31 rfl (by decide) rfl ?_
        refine a_goto (tgt := 5) hΓ dX1_allKeys_34 (by decide) ?_
        refine a_sub (ls' := [(0, aR 85), (1, aI v1), (2, aL (v2 + r6)), (4, aI (v4 + 1))]) [2, 3, 1, 0] rfl ?_
        exact ih (v2 + r6) (v4 + 1) M7 h
      · rw [if_neg c3] at h
        refine a_iinc (ls' := [(4, aI (v4 + 1)), (0, aR 85), (1, aI v1), (2, aL v2)]) hΓ 3 dX1_allKeys_31 rfl (by decide) rfl ?_
        refine a_goto (tgt := 5) hΓ dX1_allKeys_34 (by decide) ?_
        refine a_sub (ls' := [(0, aR 85), (1, aI v1), (2, aL v2), (4, aI (v4 + 1))]) [1, 2, 3, 0] rfl ?_
        exact ih v2 (v4 + 1) M h
    · rw [if_neg c2] at h
      refine a_lload_n hΓ 2 dX1_allKeys_37 rfl rfl ?_
      exact a_lret hΓ hr dX1_allKeys_38 ⟨_, _, rfl, rfl, h⟩
def wX1_allKeys (v1 : Int) (M : Mm) (Q : Int → Mm → Prop) : Prop :=
    ∃ n, wX1_allKeys_5 Q v1 n 0 0 M
set_option maxHeartbeats 4000000 in
theorem s_wX1_allKeys {Γ : Cx} {h : Nat} (hΓ : Ok Γ cX1_allKeys RX1 5 h 0 0) (hh : 2 ≤ h) (hr : (cxm Γ).sig.returnType = (some .long)) {Q : Int → Mm → Prop} (v1 : Int) (M : Mm) (h : wX1_allKeys v1 M Q) : Wa Γ 5 (Kf Γ (QL Q) 0 0) 0 0 0 [(0, aR 85), (1, aI v1)] [] (NC, RF, M) := by
  unfold wX1_allKeys at h
  refine a_lconst (x := 0) hΓ dX1_allKeys_0 rfl ?_
  refine a_lstore_n (ls' := [(2, aL 0), (0, aR 85), (1, aI v1)]) hΓ dX1_allKeys_1 rfl (by decide) rfl ?_
  refine a_iconst hΓ dX1_allKeys_2 ?_
  refine a_istore (ls' := [(4, aI 0), (2, aL 0), (0, aR 85), (1, aI v1)]) hΓ dX1_allKeys_3 (by decide) rfl ?_
  refine a_sub (ls' := [(0, aR 85), (1, aI v1), (2, aL 0), (4, aI 0)]) [2, 3, 1, 0] rfl ?_
  obtain ⟨f1, h⟩ := h
  exact s_wX1_allKeys_5 hΓ (Nat.le_trans (by decide) hh) hr  f1 0 0 M h
theorem ct_wX1_allKeys (l : Launch) (g : Gp) (v1 : Int) (M : Mm) (Q : Int → Mm → Prop) (h : wX1_allKeys v1 M Q) : Ct l g yX1_allKeys cX1_allKeys 5 (some .long) 2 0 0 [aR 85, aI v1] (NC, RF, M) (QL Q) :=
  ct_of (by decide) (Nat.le_of_ble_eq_true rfl) (fun Γ hg hl hr _ hΓ => by subst hg; subst hl; exact s_wX1_allKeys hΓ (by decide) hr v1 M h)
def wX1_search : Nat → Int → Int → Int → Int → Mm → (Mm → Prop) → Prop
  | 0, _, _, _, _, _, _ => False
  | f + 1, v1, v2, v3, v5, M, Q => (inR v5) ∧
    (if v5 ≤ 24 then
      Bd (wX1_bound v1 M) (fun r5 M6 =>
      (inR64 (v3 + r5)) ∧
      (inR64 (M6 85 1)) ∧
      (if (cmpI (v3 + r5) (M6 85 1)) ≤ 0 then
        Q M6
      else
        Bd (wX2_busiest v1 M6) (fun r12 M13 =>
        (inR r12) ∧
        (if r12 = (-1) then
          Bd (wX1_allKeys v1 M13) (fun r18 M19 =>
          Q (up (up M19 85 1 (v3 + r18)) 85 2 (lorI v2 v1)))
        else
          (0 ≤ r12 ∧ r12 < 24) ∧
          Bd (wX1_keyOf r12 M13) (fun r23 M24 =>
          Bv ((wX1_search f) (landI (landI v1 (lxorI (shlI 1 r12) (-1))) (lxorI (M13 84 r12) (-1))) (lorI v2 (shlI 1 r12)) (v3 + r23) (v5 + 1) M24) (fun M28 =>
          Bv ((wX1_search f) (landI v1 (lxorI (shlI 1 r12) (-1))) v2 v3 (v5 + 1) M28) (fun M32 =>
          Q M32)))))))
    else
      Q M)
set_option maxHeartbeats 4000000 in
theorem s_wX1_search {Γ : Cx} {h : Nat} (hΓ : Ok Γ cX1_search RX1 8 h 0 0) (hh : 4 ≤ h) (hr : (cxm Γ).sig.returnType = none) {Q : Mm → Prop} {f : Nat}  {h0 : Nat} (hrc : ∀ (a0 : Int) (a1 : Int) (a2 : Int) (a3 : Int) (M : Mm) (Q : Mm → Prop), wX1_search f a0 a1 a2 a3 M Q → Ct (cxl Γ) (cxg Γ) yX1_search cX1_search 8 none h0 0 0 [aR 85, aI a0, aI a1, aL a2, aI a3] (NC, RF, M) (QV Q)) (hh0 : h0 + 1 ≤ h) (v1 : Int) (v2 : Int) (v3 : Int) (v5 : Int) (M : Mm) (h1 : wX1_search (f + 1) v1 v2 v3 v5 M Q) : Wa Γ 8 (Kf Γ (QV Q) 0 0) 0 0 0 [(0, aR 85), (1, aI v1), (2, aI v2), (3, aL v3), (5, aI v5)] [] (NC, RF, M) := by
  have h := h1
  unfold wX1_search at h
  refine a_iload hΓ 4 dX1_search_0 rfl ?_
  refine a_bipush hΓ dX1_search_2 (by decide) ?_
  obtain ⟨g1, h⟩ := h
  refine a_icmp_gt (tgt := 22) hΓ g1 (inRl (by decide)) dX1_search_4 (by decide) (fun c2 => ?_) (fun c2 => ?_)
  · rw [if_pos c2] at h
    refine a_lload_n hΓ 3 dX1_search_7 rfl rfl ?_
    refine a_aload_n hΓ 0 dX1_search_8 rfl rfl ?_
    refine a_iload_n hΓ 1 dX1_search_9 rfl rfl ?_
    obtain ⟨P3, q4, h⟩ := h
    refine n_callV (c := 85) (av := [aI v1]) (st := [aL v3]) hΓ (ct_wX1_bound _ _ v1 M P3 q4) my_X1_bound ml_RX1_44 ni_X1_bound kd_85 rfl lz_85 rfl (Nat.le_trans (by decide) hh) (by decide) (Nat.le_of_ble_eq_true rfl) rfl dX1_search_10 (fun v Z' hq => ?_)
    obtain ⟨r5, M6, rfl, rfl, hq⟩ := hq
    have h := h r5 M6 hq
    dsimp only at h
    refine a_ladd hΓ dX1_search_13 ?_
    refine a_aload_n hΓ 0 dX1_search_14 rfl rfl ?_
    refine n_getL (x := (M6 85 1)) hΓ fl_RX1_17 cl_1 kd_85 lz_85 dX1_search_15 ft_1_1 rfl ?_
    obtain ⟨g7, h⟩ := h
    obtain ⟨g8, h⟩ := h
    refine a_lcmp hΓ g7 g8 dX1_search_18 ?_
    refine a_if_gt (tgt := 23) hΓ (inR_cmp _ _) dX1_search_19 (by decide) (fun c9 => ?_) (fun c9 => ?_)
    · rw [if_pos c9] at h
      exact a_vret hΓ hr dX1_search_22 ⟨_, rfl, rfl, h⟩
    · rw [if_neg c9] at h
      refine a_aload_n hΓ 0 dX1_search_23 rfl rfl ?_
      refine n_getR hΓ fl_RX1_9 cl_1 kd_85 lz_85 dX1_search_24 ft_1_0 rf_85_0 ?_
      refine a_iload_n hΓ 1 dX1_search_27 rfl rfl ?_
      obtain ⟨P10, q11, h⟩ := h
      refine n_callV (c := 83) (av := [aI v1]) (st := []) hΓ (ct_wX2_busiest _ _ v1 M6 P10 q11) my_X2_busiest ml_RX1_48 ni_X2_busiest kd_83 rfl lz_83 rfl (Nat.le_trans (by decide) hh) (by decide) (Nat.le_of_ble_eq_true rfl) rfl dX1_search_28 (fun v Z' hq => ?_)
      obtain ⟨r12, M13, rfl, rfl, hq⟩ := hq
      have h := h r12 M13 hq
      dsimp only at h
      refine a_istore (ls' := [(6, aI r12), (0, aR 85), (1, aI v1), (2, aI v2), (3, aL v3), (5, aI v5)]) hΓ dX1_search_31 (by decide) rfl ?_
      refine a_iload hΓ 0 dX1_search_33 rfl ?_
      refine a_iconst hΓ dX1_search_35 ?_
      obtain ⟨g14, h⟩ := h
      refine a_icmp_ne (tgt := 58) hΓ g14 (inRl (by decide)) dX1_search_36 (by decide) (fun c15 => ?_) (fun c15 => ?_)
      · rw [if_pos c15] at h
        refine a_aload_n hΓ 1 dX1_search_39 rfl rfl ?_
        refine a_lload_n hΓ 4 dX1_search_40 rfl rfl ?_
        refine a_aload_n hΓ 1 dX1_search_41 rfl rfl ?_
        refine a_iload_n hΓ 2 dX1_search_42 rfl rfl ?_
        obtain ⟨P16, q17, h⟩ := h
        refine n_callV (c := 85) (av := [aI v1]) (st := [aL v3, aR 85]) hΓ (ct_wX1_allKeys _ _ v1 M13 P16 q17) my_X1_allKeys ml_RX1_51 ni_X1_allKeys kd_85 rfl lz_85 rfl (Nat.le_trans (by decide) hh) (by decide) (Nat.le_of_ble_eq_true rfl) rfl dX1_search_43 (fun v Z' hq => ?_)
        obtain ⟨r18, M19, rfl, rfl, hq⟩ := hq
        have h := h r18 M19 hq
        dsimp only at h
        refine a_ladd hΓ dX1_search_46 ?_
        refine n_putL (j := 1) hΓ fl_RX1_17 cl_1 nf_1_1 kd_85 lz_85 dX1_search_47 ft_1_1 rfl ?_
        refine a_aload_n hΓ 1 dX1_search_50 rfl rfl ?_
        refine a_iload_n hΓ 3 dX1_search_51 rfl rfl ?_
        refine a_iload_n hΓ 2 dX1_search_52 rfl rfl ?_
        refine a_ior hΓ dX1_search_53 ?_
        refine n_putI (j := 2) hΓ fl_RX1_21 cl_1 nf_1_2 kd_85 lz_85 dX1_search_54 (Or.inl ft_1_2) rfl ?_
        exact a_vret hΓ hr dX1_search_57 ⟨_, rfl, rfl, h⟩
      · rw [if_neg c15] at h
        refine a_iload_n hΓ 2 dX1_search_58 rfl rfl ?_
        refine a_iconst hΓ dX1_search_59 ?_
        refine a_iload hΓ 0 dX1_search_60 rfl ?_
        refine a_ishl hΓ dX1_search_62 ?_
        refine a_iconst hΓ dX1_search_63 ?_
        refine a_ixor hΓ dX1_search_64 ?_
        refine a_iand hΓ dX1_search_65 ?_
        refine a_istore (ls' := [(7, aI (landI v1 (lxorI (shlI 1 r12) (-1)))), (6, aI r12), (0, aR 85), (1, aI v1), (2, aI v2), (3, aL v3), (5, aI v5)]) hΓ dX1_search_66 (by decide) rfl ?_
        refine a_aload_n hΓ 2 dX1_search_68 rfl rfl ?_
        refine a_iload hΓ 0 dX1_search_69 rfl ?_
        refine a_aload_n hΓ 2 dX1_search_71 rfl rfl ?_
        refine n_getR hΓ fl_RX1_9 cl_1 kd_85 lz_85 dX1_search_72 ft_1_0 rf_85_0 ?_
        refine n_getR hΓ fl_RX1_54 cl_2 kd_83 lz_83 dX1_search_75 ft_2_2 rf_83_2 ?_
        refine a_iload hΓ 1 dX1_search_78 rfl ?_
        obtain ⟨g20, h⟩ := h
        refine n_iald (x := (M13 84 r12)) hΓ dX1_search_80 kd_84 lz_84 g20 rfl ?_
        refine a_iconst hΓ dX1_search_81 ?_
        refine a_ixor hΓ dX1_search_82 ?_
        refine a_iand hΓ dX1_search_83 ?_
        refine a_iload_n hΓ 4 dX1_search_84 rfl rfl ?_
        refine a_iconst hΓ dX1_search_85 ?_
        refine a_iload hΓ 1 dX1_search_86 rfl ?_
        refine a_ishl hΓ dX1_search_88 ?_
        refine a_ior hΓ dX1_search_89 ?_
        refine a_lload_n hΓ 5 dX1_search_90 rfl rfl ?_
        refine a_aload_n hΓ 2 dX1_search_91 rfl rfl ?_
        refine a_iload hΓ 1 dX1_search_92 rfl ?_
        obtain ⟨P21, q22, h⟩ := h
        refine n_callV (c := 85) (av := [aI r12]) (st := [aL v3, aI (lorI v2 (shlI 1 r12)), aI (landI (landI v1 (lxorI (shlI 1 r12) (-1))) (lxorI (M13 84 r12) (-1))), aR 85]) hΓ (ct_wX1_keyOf _ _ r12 M13 P21 q22) my_X1_keyOf ml_RX1_57 ni_X1_keyOf kd_85 rfl lz_85 rfl (Nat.le_trans (by decide) hh) (by decide) (Nat.le_of_ble_eq_true rfl) rfl dX1_search_94 (fun v Z' hq => ?_)
        obtain ⟨r23, M24, rfl, rfl, hq⟩ := hq
        have h := h r23 M24 hq
        dsimp only at h
        refine a_ladd hΓ dX1_search_97 ?_
        refine a_iload hΓ 6 dX1_search_98 rfl ?_
        refine a_iconst hΓ dX1_search_100 ?_
        refine a_iadd hΓ dX1_search_101 ?_
        obtain ⟨P25, q26, h⟩ := h
        refine n_callV (c := 85) (av := [aI (landI (landI v1 (lxorI (shlI 1 r12) (-1))) (lxorI (M13 84 r12) (-1))), aI (lorI v2 (shlI 1 r12)), aL (v3 + r23), aI (v5 + 1)]) (st := []) hΓ (hrc (landI (landI v1 (lxorI (shlI 1 r12) (-1))) (lxorI (M13 84 r12) (-1))) (lorI v2 (shlI 1 r12)) (v3 + r23) (v5 + 1) M24 P25 q26) my_X1_search ml_RX1_30 ni_X1_search kd_85 rfl lz_85 rfl hh0 (by decide) (Nat.le_of_ble_eq_true rfl) rfl dX1_search_102 (fun v Z' hq => ?_)
        obtain ⟨M28, rfl, rfl, hq⟩ := hq
        have h := h M28 hq
        dsimp only at h
        refine a_aload_n hΓ 2 dX1_search_105 rfl rfl ?_
        refine a_iload hΓ 0 dX1_search_106 rfl ?_
        refine a_iload_n hΓ 4 dX1_search_108 rfl rfl ?_
        refine a_lload_n hΓ 5 dX1_search_109 rfl rfl ?_
        refine a_iload hΓ 6 dX1_search_110 rfl ?_
        refine a_iconst hΓ dX1_search_112 ?_
        refine a_iadd hΓ dX1_search_113 ?_
        obtain ⟨P29, q30, h⟩ := h
        refine n_callV (c := 85) (av := [aI (landI v1 (lxorI (shlI 1 r12) (-1))), aI v2, aL v3, aI (v5 + 1)]) (st := []) hΓ (hrc (landI v1 (lxorI (shlI 1 r12) (-1))) v2 v3 (v5 + 1) M28 P29 q30) my_X1_search ml_RX1_30 ni_X1_search kd_85 rfl lz_85 rfl hh0 (by decide) (Nat.le_of_ble_eq_true rfl) rfl dX1_search_114 (fun v Z' hq => ?_)
        obtain ⟨M32, rfl, rfl, hq⟩ := hq
        have h := h M32 hq
        dsimp only at h
        exact a_vret hΓ hr dX1_search_117 ⟨_, rfl, rfl, h⟩
  · rw [if_neg c2] at h
    exact a_vret hΓ hr dX1_search_22 ⟨_, rfl, rfl, h⟩
theorem ct_wX1_search (l : Launch) (g : Gp) : ∀ (f : Nat) (v1 : Int) (v2 : Int) (v3 : Int) (v5 : Int) (M : Mm) (Q : Mm → Prop), wX1_search f v1 v2 v3 v5 M Q → Ct l g yX1_search cX1_search 8 none (4 + f) 0 0 [aR 85, aI v1, aI v2, aL v3, aI v5] (NC, RF, M) (QV Q)
  | 0, _, _, _, _, _, _, h => absurd h (by unfold wX1_search; exact fun q => q)
  | f + 1, v1, v2, v3, v5, M, Q, h => ct_of (by decide) (Nat.le_of_ble_eq_true rfl) (fun Γ hg hl hr _ hΓ => by subst hg; subst hl; exact s_wX1_search (f := f) hΓ (by omega) hr (h0 := 4 + f) (fun a0 a1 a2 a3 M Q q => ct_wX1_search _ _ f a0 a1 a2 a3 M Q q) (by omega) v1 v2 v3 v5 M h)
def wX1_choose  (M : Mm) (Q : Mm → Prop) : Prop :=
    Bv (wX1_search 30 (M 83 4) 0 0 0 (up (up M 85 1 (-1)) 85 2 0)) (fun M4 =>
    Q M4)
set_option maxHeartbeats 4000000 in
theorem s_wX1_choose {Γ : Cx} {h : Nat} (hΓ : Ok Γ cX1_choose RX1 1 h 0 0) (hh : 35 ≤ h) (hr : (cxm Γ).sig.returnType = none) {Q : Mm → Prop}  (M : Mm) (h : wX1_choose  M Q) : Wa Γ 1 (Kf Γ (QV Q) 0 0) 0 0 0 [(0, aR 85)] [] (NC, RF, M) := by
  unfold wX1_choose at h
  refine a_aload_n hΓ 0 dX1_choose_0 rfl rfl ?_
  refine a_ldc2_w hΓ gc_RX1_15 dX1_choose_1 ?_
  refine n_putL (j := 1) hΓ fl_RX1_17 cl_1 nf_1_1 kd_85 lz_85 dX1_choose_4 ft_1_1 rfl ?_
  refine a_aload_n hΓ 0 dX1_choose_7 rfl rfl ?_
  refine a_iconst hΓ dX1_choose_8 ?_
  refine n_putI (j := 2) hΓ fl_RX1_21 cl_1 nf_1_2 kd_85 lz_85 dX1_choose_9 (Or.inl ft_1_2) rfl ?_
  refine a_aload_n hΓ 0 dX1_choose_12 rfl rfl ?_
  refine a_aload_n hΓ 0 dX1_choose_13 rfl rfl ?_
  refine n_getR hΓ fl_RX1_9 cl_1 kd_85 lz_85 dX1_choose_14 ft_1_0 rf_85_0 ?_
  refine n_getI (x := (M 83 4)) hΓ fl_RX1_25 cl_2 kd_83 lz_83 dX1_choose_17 (Or.inl ft_2_4) rfl ?_
  refine a_iconst hΓ dX1_choose_20 ?_
  refine a_lconst (x := 0) hΓ dX1_choose_21 rfl ?_
  refine a_iconst hΓ dX1_choose_22 ?_
  obtain ⟨P1, q2, h⟩ := h
  refine n_callV (c := 85) (av := [aI (M 83 4), aI 0, aL 0, aI 0]) (st := []) hΓ (ct_wX1_search _ _ 30 (M 83 4) 0 0 0 (up (up M 85 1 (-1)) 85 2 0) P1 q2) my_X1_search ml_RX1_30 ni_X1_search kd_85 rfl lz_85 rfl (Nat.le_trans (by decide) hh) (by decide) (Nat.le_of_ble_eq_true rfl) rfl dX1_choose_23 (fun v Z' hq => ?_)
  obtain ⟨M4, rfl, rfl, hq⟩ := hq
  have h := h M4 hq
  dsimp only at h
  exact a_vret hΓ hr dX1_choose_26 ⟨_, rfl, rfl, h⟩
theorem ct_wX1_choose (l : Launch) (g : Gp)  (M : Mm) (Q : Mm → Prop) (h : wX1_choose  M Q) : Ct l g yX1_choose cX1_choose 1 none 35 0 0 [aR 85] (NC, RF, M) (QV Q) :=
  ct_of (by decide) (Nat.le_of_ble_eq_true rfl) (fun Γ hg hl hr _ hΓ => by subst hg; subst hl; exact s_wX1_choose hΓ (by decide) hr  M h)
def wX2_allWorth_4 (Q : Int → Mm → Prop) (v1 : Int) : Nat → Int → Int → Mm → Prop
  | 0, _, _, _ => False
  | f + 1, v2, v3, M => (inR v3) ∧
    (if v3 < 24 then
      (if (landI (shrI v1 v3) 1) = 1 then
        (0 ≤ v3 ∧ v3 < 24) ∧
        (wX2_allWorth_4 Q v1 f) (v2 + (M 20 v3)) (v3 + 1) M
      else
        (wX2_allWorth_4 Q v1 f) v2 (v3 + 1) M)
    else
      Q v2 M)
set_option maxHeartbeats 4000000 in
theorem s_wX2_allWorth_4 {Γ : Cx} {h : Nat} (hΓ : Ok Γ cX2_allWorth RX2 4 h 0 0) (hh : 1 ≤ h) (hr : (cxm Γ).sig.returnType = (some .int)) {Q : Int → Mm → Prop} {v1 : Int}   : ∀ (f : Nat) (v2 : Int) (v3 : Int) (M : Mm), wX2_allWorth_4 Q v1 f v2 v3 M → Wa Γ 4 (Kf Γ (QI Q) 0 0) 0 0 4 [(0, aR 83), (1, aI v1), (2, aI v2), (3, aI v3)] [] (NC, RF, M) := by
  intro f
  induction f with
  | zero => intro v2 v3 M h; exact h.elim
  | succ f ih =>
    intro v2 v3 M h
    unfold wX2_allWorth_4 at h
    refine a_iload_n hΓ 3 dX2_allWorth_4 rfl rfl ?_
    refine a_bipush hΓ dX2_allWorth_5 (by decide) ?_
    obtain ⟨g1, h⟩ := h
    refine a_icmp_ge (tgt := 34) hΓ g1 (inRl (by decide)) dX2_allWorth_7 (by decide) (fun c2 => ?_) (fun c2 => ?_)
    · rw [if_pos c2] at h
      refine a_iload_n hΓ 1 dX2_allWorth_10 rfl rfl ?_
      refine a_iload_n hΓ 3 dX2_allWorth_11 rfl rfl ?_
      refine a_ishr hΓ dX2_allWorth_12 ?_
      refine a_iconst hΓ dX2_allWorth_13 ?_
      refine a_iand hΓ dX2_allWorth_14 ?_
      refine a_iconst hΓ dX2_allWorth_15 ?_
      refine a_icmp_ne (tgt := 28) hΓ (inR_land _ _) (inRl (by decide)) dX2_allWorth_16 (by decide) (fun c3 => ?_) (fun c3 => ?_)
      · rw [if_pos c3] at h
        refine a_iload_n hΓ 2 dX2_allWorth_19 rfl rfl ?_
        refine a_aload_n hΓ 0 dX2_allWorth_20 rfl rfl ?_
        refine n_getR hΓ fl_RX2_36 cl_2 kd_83 lz_83 dX2_allWorth_21 ft_2_1 rf_83_1 ?_
        refine a_iload_n hΓ 3 dX2_allWorth_24 rfl rfl ?_
        obtain ⟨g4, h⟩ := h
        refine n_iald (x := (M 20 v3)) hΓ dX2_allWorth_25 kd_20 lz_20 g4 rfl ?_
        refine a_iadd hΓ dX2_allWorth_26 ?_
        refine a_istore_n (ls' := [(2, aI (v2 + (M 20 v3))), (0, aR 83), (1, aI v1), (3, aI v3)]) hΓ dX2_allWorth_27 rfl (by decide) rfl ?_
        refine a_iinc (ls' := [(3, aI (v3 + 1)), (2, aI (v2 + (M 20 v3))), (0, aR 83), (1, aI v1)]) hΓ 3 dX2_allWorth_28 rfl (by decide) rfl ?_
        refine a_goto (tgt := 4) hΓ dX2_allWorth_31 (by decide) ?_
        refine a_sub (ls' := [(0, aR 83), (1, aI v1), (2, aI (v2 + (M 20 v3))), (3, aI (v3 + 1))]) [2, 3, 1, 0] rfl ?_
        exact ih (v2 + (M 20 v3)) (v3 + 1) M h
      · rw [if_neg c3] at h
        refine a_iinc (ls' := [(3, aI (v3 + 1)), (0, aR 83), (1, aI v1), (2, aI v2)]) hΓ 3 dX2_allWorth_28 rfl (by decide) rfl ?_
        refine a_goto (tgt := 4) hΓ dX2_allWorth_31 (by decide) ?_
        refine a_sub (ls' := [(0, aR 83), (1, aI v1), (2, aI v2), (3, aI (v3 + 1))]) [1, 2, 3, 0] rfl ?_
        exact ih v2 (v3 + 1) M h
    · rw [if_neg c2] at h
      refine a_iload_n hΓ 2 dX2_allWorth_34 rfl rfl ?_
      exact a_iret hΓ hr dX2_allWorth_35 ⟨_, _, rfl, rfl, h⟩
def wX2_allWorth (v1 : Int) (M : Mm) (Q : Int → Mm → Prop) : Prop :=
    ∃ n, wX2_allWorth_4 Q v1 n 0 0 M
set_option maxHeartbeats 4000000 in
theorem s_wX2_allWorth {Γ : Cx} {h : Nat} (hΓ : Ok Γ cX2_allWorth RX2 4 h 0 0) (hh : 1 ≤ h) (hr : (cxm Γ).sig.returnType = (some .int)) {Q : Int → Mm → Prop} (v1 : Int) (M : Mm) (h : wX2_allWorth v1 M Q) : Wa Γ 4 (Kf Γ (QI Q) 0 0) 0 0 0 [(0, aR 83), (1, aI v1)] [] (NC, RF, M) := by
  unfold wX2_allWorth at h
  refine a_iconst hΓ dX2_allWorth_0 ?_
  refine a_istore_n (ls' := [(2, aI 0), (0, aR 83), (1, aI v1)]) hΓ dX2_allWorth_1 rfl (by decide) rfl ?_
  refine a_iconst hΓ dX2_allWorth_2 ?_
  refine a_istore_n (ls' := [(3, aI 0), (2, aI 0), (0, aR 83), (1, aI v1)]) hΓ dX2_allWorth_3 rfl (by decide) rfl ?_
  refine a_sub (ls' := [(0, aR 83), (1, aI v1), (2, aI 0), (3, aI 0)]) [2, 3, 1, 0] rfl ?_
  obtain ⟨f1, h⟩ := h
  exact s_wX2_allWorth_4 hΓ (Nat.le_trans (by decide) hh) hr  f1 0 0 M h
theorem ct_wX2_allWorth (l : Launch) (g : Gp) (v1 : Int) (M : Mm) (Q : Int → Mm → Prop) (h : wX2_allWorth v1 M Q) : Ct l g yX2_allWorth cX2_allWorth 4 (some .int) 1 0 0 [aR 83, aI v1] (NC, RF, M) (QI Q) :=
  ct_of (by decide) (Nat.le_of_ble_eq_true rfl) (fun Γ hg hl hr _ hΓ => by subst hg; subst hl; exact s_wX2_allWorth hΓ (by decide) hr v1 M h)
def wX1_bestWorth  (M : Mm) (Q : Int → Mm → Prop) : Prop :=
    Bd (wX2_allWorth (M 85 2) M) (fun r3 M4 =>
    Q r3 M4)
set_option maxHeartbeats 4000000 in
theorem s_wX1_bestWorth {Γ : Cx} {h : Nat} (hΓ : Ok Γ cX1_bestWorth RX1 1 h 0 0) (hh : 2 ≤ h) (hr : (cxm Γ).sig.returnType = (some .int)) {Q : Int → Mm → Prop}  (M : Mm) (h : wX1_bestWorth  M Q) : Wa Γ 1 (Kf Γ (QI Q) 0 0) 0 0 0 [(0, aR 85)] [] (NC, RF, M) := by
  unfold wX1_bestWorth at h
  refine a_aload_n hΓ 0 dX1_bestWorth_0 rfl rfl ?_
  refine n_getR hΓ fl_RX1_9 cl_1 kd_85 lz_85 dX1_bestWorth_1 ft_1_0 rf_85_0 ?_
  refine a_aload_n hΓ 0 dX1_bestWorth_4 rfl rfl ?_
  refine n_getI (x := (M 85 2)) hΓ fl_RX1_21 cl_1 kd_85 lz_85 dX1_bestWorth_5 (Or.inl ft_1_2) rfl ?_
  obtain ⟨P1, q2, h⟩ := h
  refine n_callV (c := 83) (av := [aI (M 85 2)]) (st := []) hΓ (ct_wX2_allWorth _ _ (M 85 2) M P1 q2) my_X2_allWorth ml_RX1_34 ni_X2_allWorth kd_83 rfl lz_83 rfl (Nat.le_trans (by decide) hh) (by decide) (Nat.le_of_ble_eq_true rfl) rfl dX1_bestWorth_8 (fun v Z' hq => ?_)
  obtain ⟨r3, M4, rfl, rfl, hq⟩ := hq
  have h := h r3 M4 hq
  dsimp only at h
  exact a_iret hΓ hr dX1_bestWorth_11 ⟨_, _, rfl, rfl, h⟩
theorem ct_wX1_bestWorth (l : Launch) (g : Gp)  (M : Mm) (Q : Int → Mm → Prop) (h : wX1_bestWorth  M Q) : Ct l g yX1_bestWorth cX1_bestWorth 1 (some .int) 2 0 0 [aR 85] (NC, RF, M) (QI Q) :=
  ct_of (by decide) (Nat.le_of_ble_eq_true rfl) (fun Γ hg hl hr _ hΓ => by subst hg; subst hl; exact s_wX1_bestWorth hΓ (by decide) hr  M h)
def wX11_right (v1 : Int) (v2 : Int) (M : Mm) (Q : Int → Mm → Prop) : Prop :=
    Bd (wX11_isShip v1 M) (fun r3 M4 =>
    (inR r3) ∧
    (if r3 = 0 then
      Q (-1) M4
    else
      Bd (wX11_isDay v2 M4) (fun r9 M10 =>
      (inR r9) ∧
      (if r9 = 0 then
        Q (-1) M10
      else
        Bv (wX2_load v1 v2 M10) (fun M16 =>
        Bv (wX1_choose M16) (fun M20 =>
        Bd (wX1_bestWorth (up (up M20 0 11 (M20 85 2)) 0 12 1)) (fun r23 M24 =>
        Q r23 M24)))))))
set_option maxHeartbeats 4000000 in
theorem s_wX11_right {Γ : Cx} {h : Nat} (hΓ : Ok Γ cX11_right RX11 3 h 0 0) (hh : 36 ≤ h) (hr : (cxm Γ).sig.returnType = (some .int)) {Q : Int → Mm → Prop} (v1 : Int) (v2 : Int) (M : Mm) (h : wX11_right v1 v2 M Q) : Wa Γ 3 (Kf Γ (QI Q) 0 0) 0 0 0 [(0, aR 0), (1, aI v1), (2, aI v2)] [] (NC, RF, M) := by
  unfold wX11_right at h
  refine a_aload_n hΓ 0 dX11_right_0 rfl rfl ?_
  refine a_iload_n hΓ 1 dX11_right_1 rfl rfl ?_
  obtain ⟨P1, q2, h⟩ := h
  refine n_callV (c := 0) (av := [aI v1]) (st := []) hΓ (ct_wX11_isShip _ _ v1 M P1 q2) my_X11_isShip ml_RX11_106 ni_X11_isShip kd_0 rfl lz_0 rfl (Nat.le_trans (by decide) hh) (by decide) (Nat.le_of_ble_eq_true rfl) rfl dX11_right_2 (fun v Z' hq => ?_)
  obtain ⟨r3, M4, rfl, rfl, hq⟩ := hq
  have h := h r3 M4 hq
  dsimp only at h
  obtain ⟨g5, h⟩ := h
  refine a_if_eq (tgt := 15) hΓ g5 dX11_right_5 (by decide) (fun c6 => ?_) (fun c6 => ?_)
  · rw [if_pos c6] at h
    refine a_iconst hΓ dX11_right_15 ?_
    exact a_iret hΓ hr dX11_right_16 ⟨_, _, rfl, rfl, h⟩
  · rw [if_neg c6] at h
    refine a_iload_n hΓ 2 dX11_right_8 rfl rfl ?_
    obtain ⟨P7, q8, h⟩ := h
    refine n_callS (av := [aI v2]) (st := []) hΓ (ct_wX11_isDay _ _ v2 M4 P7 q8) my_X11_isDay ml_RX11_102 rfl (Nat.le_trans (by decide) hh) (by decide) (Nat.le_of_ble_eq_true rfl) rfl dX11_right_9 (fun v Z' hq => ?_)
    obtain ⟨r9, M10, rfl, rfl, hq⟩ := hq
    have h := h r9 M10 hq
    dsimp only at h
    obtain ⟨g11, h⟩ := h
    refine a_if_ne (tgt := 17) hΓ g11 dX11_right_12 (by decide) (fun c12 => ?_) (fun c12 => ?_)
    · rw [if_pos c12] at h
      refine a_iconst hΓ dX11_right_15 ?_
      exact a_iret hΓ hr dX11_right_16 ⟨_, _, rfl, rfl, h⟩
    · rw [if_neg c12] at h
      refine a_aload_n hΓ 0 dX11_right_17 rfl rfl ?_
      refine n_getR hΓ fl_RX11_38 cl_11 kd_0 lz_0 dX11_right_18 ft_11_4 rf_0_4 ?_
      refine a_iload_n hΓ 1 dX11_right_21 rfl rfl ?_
      refine a_iload_n hΓ 2 dX11_right_22 rfl rfl ?_
      obtain ⟨P13, q14, h⟩ := h
      refine n_callV (c := 83) (av := [aI v1, aI v2]) (st := []) hΓ (ct_wX2_load _ _ v1 v2 M10 P13 q14) my_X2_load ml_RX11_220 ni_X2_load kd_83 rfl lz_83 rfl (Nat.le_trans (by decide) hh) (by decide) (Nat.le_of_ble_eq_true rfl) rfl dX11_right_23 (fun v Z' hq => ?_)
      obtain ⟨M16, rfl, rfl, hq⟩ := hq
      have h := h M16 hq
      dsimp only at h
      refine a_aload_n hΓ 0 dX11_right_26 rfl rfl ?_
      refine n_getR hΓ fl_RX11_47 cl_11 kd_0 lz_0 dX11_right_27 ft_11_5 rf_0_5 ?_
      obtain ⟨P17, q18, h⟩ := h
      refine n_callV (c := 85) (av := []) (st := []) hΓ (ct_wX1_choose _ _  M16 P17 q18) my_X1_choose ml_RX11_236 ni_X1_choose kd_85 rfl lz_85 rfl (Nat.le_trans (by decide) hh) (by decide) (Nat.le_of_ble_eq_true rfl) rfl dX11_right_30 (fun v Z' hq => ?_)
      obtain ⟨M20, rfl, rfl, hq⟩ := hq
      have h := h M20 hq
      dsimp only at h
      refine a_aload_n hΓ 0 dX11_right_33 rfl rfl ?_
      refine a_aload_n hΓ 0 dX11_right_34 rfl rfl ?_
      refine n_getR hΓ fl_RX11_47 cl_11 kd_0 lz_0 dX11_right_35 ft_11_5 rf_0_5 ?_
      refine n_getI (x := (M20 85 2)) hΓ fl_RX11_239 cl_1 kd_85 lz_85 dX11_right_38 (Or.inl ft_1_2) rfl ?_
      refine n_putI (j := 11) hΓ fl_RX11_242 cl_11 nf_11_11 kd_0 lz_0 dX11_right_41 (Or.inl ft_11_11) rfl ?_
      refine a_aload_n hΓ 0 dX11_right_44 rfl rfl ?_
      refine a_iconst hΓ dX11_right_45 ?_
      refine n_putI (j := 12) hΓ fl_RX11_245 cl_11 nf_11_12 kd_0 lz_0 dX11_right_46 (Or.inr ⟨ft_11_12, (Or.inr rfl)⟩) rfl ?_
      refine a_aload_n hΓ 0 dX11_right_49 rfl rfl ?_
      refine n_getR hΓ fl_RX11_47 cl_11 kd_0 lz_0 dX11_right_50 ft_11_5 rf_0_5 ?_
      obtain ⟨P21, q22, h⟩ := h
      refine n_callV (c := 85) (av := []) (st := []) hΓ (ct_wX1_bestWorth _ _  (up (up M20 0 11 (M20 85 2)) 0 12 1) P21 q22) my_X1_bestWorth ml_RX11_249 ni_X1_bestWorth kd_85 rfl lz_85 rfl (Nat.le_trans (by decide) hh) (by decide) (Nat.le_of_ble_eq_true rfl) rfl dX11_right_53 (fun v Z' hq => ?_)
      obtain ⟨r23, M24, rfl, rfl, hq⟩ := hq
      have h := h r23 M24 hq
      dsimp only at h
      exact a_iret hΓ hr dX11_right_56 ⟨_, _, rfl, rfl, h⟩
theorem ct_wX11_right (l : Launch) (g : Gp) (v1 : Int) (v2 : Int) (M : Mm) (Q : Int → Mm → Prop) (h : wX11_right v1 v2 M Q) : Ct l g yX11_right cX11_right 3 (some .int) 36 0 0 [aR 0, aI v1, aI v2] (NC, RF, M) (QI Q) :=
  ct_of (by decide) (Nat.le_of_ble_eq_true rfl) (fun Γ hg hl hr _ hΓ => by subst hg; subst hl; exact s_wX11_right hΓ (by decide) hr v1 v2 M h)
def wX11_isRight (v1 : Int) (M : Mm) (Q : Int → Mm → Prop) : Prop :=
    (inR (M 0 12)) ∧
    (if (M 0 12) = 0 then
      Q (-1) M
    else
      Bd (wX11_isLog v1 M) (fun r5 M6 =>
      (inR r5) ∧
      (if r5 = 0 then
        Q (-1) M6
      else
        Q (landI (shrI (M6 0 11) v1) 1) M6)))
set_option maxHeartbeats 4000000 in
theorem s_wX11_isRight {Γ : Cx} {h : Nat} (hΓ : Ok Γ cX11_isRight RX11 2 h 0 0) (hh : 3 ≤ h) (hr : (cxm Γ).sig.returnType = (some .int)) {Q : Int → Mm → Prop} (v1 : Int) (M : Mm) (h : wX11_isRight v1 M Q) : Wa Γ 2 (Kf Γ (QI Q) 0 0) 0 0 0 [(0, aR 0), (1, aI v1)] [] (NC, RF, M) := by
  unfold wX11_isRight at h
  refine a_aload_n hΓ 0 dX11_isRight_0 rfl rfl ?_
  refine n_getI (x := (M 0 12)) hΓ fl_RX11_245 cl_11 kd_0 lz_0 dX11_isRight_1 (Or.inr ft_11_12) rfl ?_
  obtain ⟨g1, h⟩ := h
  refine a_if_eq (tgt := 15) hΓ g1 dX11_isRight_4 (by decide) (fun c2 => ?_) (fun c2 => ?_)
  · rw [if_pos c2] at h
    refine a_iconst hΓ dX11_isRight_15 ?_
    exact a_iret hΓ hr dX11_isRight_16 ⟨_, _, rfl, rfl, h⟩
  · rw [if_neg c2] at h
    refine a_aload_n hΓ 0 dX11_isRight_7 rfl rfl ?_
    refine a_iload_n hΓ 1 dX11_isRight_8 rfl rfl ?_
    obtain ⟨P3, q4, h⟩ := h
    refine n_callV (c := 0) (av := [aI v1]) (st := []) hΓ (ct_wX11_isLog _ _ v1 M P3 q4) my_X11_isLog ml_RX11_150 ni_X11_isLog kd_0 rfl lz_0 rfl (Nat.le_trans (by decide) hh) (by decide) (Nat.le_of_ble_eq_true rfl) rfl dX11_isRight_9 (fun v Z' hq => ?_)
    obtain ⟨r5, M6, rfl, rfl, hq⟩ := hq
    have h := h r5 M6 hq
    dsimp only at h
    obtain ⟨g7, h⟩ := h
    refine a_if_ne (tgt := 17) hΓ g7 dX11_isRight_12 (by decide) (fun c8 => ?_) (fun c8 => ?_)
    · rw [if_pos c8] at h
      refine a_iconst hΓ dX11_isRight_15 ?_
      exact a_iret hΓ hr dX11_isRight_16 ⟨_, _, rfl, rfl, h⟩
    · rw [if_neg c8] at h
      refine a_aload_n hΓ 0 dX11_isRight_17 rfl rfl ?_
      refine n_getI (x := (M6 0 11)) hΓ fl_RX11_242 cl_11 kd_0 lz_0 dX11_isRight_18 (Or.inl ft_11_11) rfl ?_
      refine a_iload_n hΓ 1 dX11_isRight_21 rfl rfl ?_
      refine a_ishr hΓ dX11_isRight_22 ?_
      refine a_iconst hΓ dX11_isRight_23 ?_
      refine a_iand hΓ dX11_isRight_24 ?_
      exact a_iret hΓ hr dX11_isRight_25 ⟨_, _, rfl, rfl, h⟩
theorem ct_wX11_isRight (l : Launch) (g : Gp) (v1 : Int) (M : Mm) (Q : Int → Mm → Prop) (h : wX11_isRight v1 M Q) : Ct l g yX11_isRight cX11_isRight 2 (some .int) 3 0 0 [aR 0, aI v1] (NC, RF, M) (QI Q) :=
  ct_of (by decide) (Nat.le_of_ble_eq_true rfl) (fun Γ hg hl hr _ hΓ => by subst hg; subst hl; exact s_wX11_isRight hΓ (by decide) hr v1 M h)
def wX8_put (v1 : Int) (M : Mm) (Q : Mm → Prop) : Prop :=
    (inR (M 86 5)) ∧
    (if (M 86 5) = 0 then
      Q (up M 86 4 ((M 86 4) + 1))
    else
      (inR (M 86 4)) ∧
      (if (M 86 4) < 2000 then
        (0 ≤ (M 86 4) ∧ (M 86 4) < 2000) ∧
        Q (up (up M 87 (M 86 4) v1) 86 4 ((M 86 4) + 1))
      else
        Q (up M 86 4 ((M 86 4) + 1))))
set_option maxHeartbeats 4000000 in
theorem s_wX8_put {Γ : Cx} {h : Nat} (hΓ : Ok Γ cX8_put RX8 2 h 0 0) (hh : 1 ≤ h) (hr : (cxm Γ).sig.returnType = none) {Q : Mm → Prop} (v1 : Int) (M : Mm) (h : wX8_put v1 M Q) : Wa Γ 2 (Kf Γ (QV Q) 0 0) 0 0 0 [(0, aR 86), (1, aI v1)] [] (NC, RF, M) := by
  unfold wX8_put at h
  refine a_aload_n hΓ 0 dX8_put_0 rfl rfl ?_
  refine n_getI (x := (M 86 5)) hΓ fl_RX8_26 cl_8 kd_86 lz_86 dX8_put_1 (Or.inr ft_8_5) rfl ?_
  obtain ⟨g1, h⟩ := h
  refine a_if_eq (tgt := 27) hΓ g1 dX8_put_4 (by decide) (fun c2 => ?_) (fun c2 => ?_)
  · rw [if_pos c2] at h
    refine a_aload_n hΓ 0 dX8_put_27 rfl rfl ?_
    refine a_dupR hΓ dX8_put_28 ?_
    refine n_getI (x := (M 86 4)) hΓ fl_RX8_23 cl_8 kd_86 lz_86 dX8_put_29 (Or.inl ft_8_4) rfl ?_
    refine a_iconst hΓ dX8_put_32 ?_
    refine a_iadd hΓ dX8_put_33 ?_
    refine n_putI (j := 4) hΓ fl_RX8_23 cl_8 nf_8_4 kd_86 lz_86 dX8_put_34 (Or.inl ft_8_4) rfl ?_
    exact a_vret hΓ hr dX8_put_37 ⟨_, rfl, rfl, h⟩
  · rw [if_neg c2] at h
    refine a_aload_n hΓ 0 dX8_put_7 rfl rfl ?_
    refine n_getI (x := (M 86 4)) hΓ fl_RX8_23 cl_8 kd_86 lz_86 dX8_put_8 (Or.inl ft_8_4) rfl ?_
    refine a_sipush hΓ dX8_put_11 (by decide) ?_
    obtain ⟨g3, h⟩ := h
    refine a_icmp_ge (tgt := 27) hΓ g3 (inRl (by decide)) dX8_put_14 (by decide) (fun c4 => ?_) (fun c4 => ?_)
    · rw [if_pos c4] at h
      refine a_aload_n hΓ 0 dX8_put_17 rfl rfl ?_
      refine n_getR hΓ fl_RX8_11 cl_8 kd_86 lz_86 dX8_put_18 ft_8_1 rf_86_1 ?_
      refine a_aload_n hΓ 0 dX8_put_21 rfl rfl ?_
      refine n_getI (x := (M 86 4)) hΓ fl_RX8_23 cl_8 kd_86 lz_86 dX8_put_22 (Or.inl ft_8_4) rfl ?_
      refine a_iload_n hΓ 1 dX8_put_25 rfl rfl ?_
      obtain ⟨g5, h⟩ := h
      refine a_iast hΓ dX8_put_26 kd_87 lz_87 g5 ?_
      refine a_aload_n hΓ 0 dX8_put_27 rfl rfl ?_
      refine a_dupR hΓ dX8_put_28 ?_
      refine n_getI (x := (M 86 4)) hΓ fl_RX8_23 cl_8 kd_86 lz_86 dX8_put_29 (Or.inl ft_8_4) rfl ?_
      refine a_iconst hΓ dX8_put_32 ?_
      refine a_iadd hΓ dX8_put_33 ?_
      refine n_putI (j := 4) hΓ fl_RX8_23 cl_8 nf_8_4 kd_86 lz_86 dX8_put_34 (Or.inl ft_8_4) rfl ?_
      exact a_vret hΓ hr dX8_put_37 ⟨_, rfl, rfl, h⟩
    · rw [if_neg c4] at h
      refine a_aload_n hΓ 0 dX8_put_27 rfl rfl ?_
      refine a_dupR hΓ dX8_put_28 ?_
      refine n_getI (x := (M 86 4)) hΓ fl_RX8_23 cl_8 kd_86 lz_86 dX8_put_29 (Or.inl ft_8_4) rfl ?_
      refine a_iconst hΓ dX8_put_32 ?_
      refine a_iadd hΓ dX8_put_33 ?_
      refine n_putI (j := 4) hΓ fl_RX8_23 cl_8 nf_8_4 kd_86 lz_86 dX8_put_34 (Or.inl ft_8_4) rfl ?_
      exact a_vret hΓ hr dX8_put_37 ⟨_, rfl, rfl, h⟩
theorem ct_wX8_put (l : Launch) (g : Gp) (v1 : Int) (M : Mm) (Q : Mm → Prop) (h : wX8_put v1 M Q) : Ct l g yX8_put cX8_put 2 none 1 0 0 [aR 86, aI v1] (NC, RF, M) (QV Q) :=
  ct_of (by decide) (Nat.le_of_ble_eq_true rfl) (fun Γ hg hl hr _ hΓ => by subst hg; subst hl; exact s_wX8_put hΓ (by decide) hr v1 M h)
def wX8_putNumber (v1 : Int) (M : Mm) (Q : Mm → Prop) : Prop :=
    (inR v1) ∧
    (if v1 ≤ 9 then
      Bv (wX8_put (48 + (Int.tmod v1 10)) M) (fun M6 =>
      Q M6)
    else
      Bv (wX8_put (48 + (Int.tdiv v1 10)) M) (fun M10 =>
      Bv (wX8_put (48 + (Int.tmod v1 10)) M10) (fun M14 =>
      Q M14)))
set_option maxHeartbeats 4000000 in
theorem s_wX8_putNumber {Γ : Cx} {h : Nat} (hΓ : Ok Γ cX8_putNumber RX8 2 h 0 0) (hh : 2 ≤ h) (hr : (cxm Γ).sig.returnType = none) {Q : Mm → Prop} (v1 : Int) (M : Mm) (h : wX8_putNumber v1 M Q) : Wa Γ 2 (Kf Γ (QV Q) 0 0) 0 0 0 [(0, aR 86), (1, aI v1)] [] (NC, RF, M) := by
  unfold wX8_putNumber at h
  refine a_iload_n hΓ 1 dX8_putNumber_0 rfl rfl ?_
  refine a_bipush hΓ dX8_putNumber_1 (by decide) ?_
  obtain ⟨g1, h⟩ := h
  refine a_icmp_le (tgt := 17) hΓ g1 (inRl (by decide)) dX8_putNumber_3 (by decide) (fun c2 => ?_) (fun c2 => ?_)
  · rw [if_pos c2] at h
    refine a_aload_n hΓ 0 dX8_putNumber_17 rfl rfl ?_
    refine a_bipush hΓ dX8_putNumber_18 (by decide) ?_
    refine a_iload_n hΓ 1 dX8_putNumber_20 rfl rfl ?_
    refine a_bipush hΓ dX8_putNumber_21 (by decide) ?_
    refine a_irem hΓ g1 (inRl (by decide)) (by decide) dX8_putNumber_23 ?_
    refine a_iadd hΓ dX8_putNumber_24 ?_
    obtain ⟨P3, q4, h⟩ := h
    refine n_callV (c := 86) (av := [aI (48 + (Int.tmod v1 10))]) (st := []) hΓ (ct_wX8_put _ _ (48 + (Int.tmod v1 10)) M P3 q4) my_X8_put ml_RX8_53 ni_X8_put kd_86 rfl lz_86 rfl (Nat.le_trans (by decide) hh) (by decide) (Nat.le_of_ble_eq_true rfl) rfl dX8_putNumber_25 (fun v Z' hq => ?_)
    obtain ⟨M6, rfl, rfl, hq⟩ := hq
    have h := h M6 hq
    dsimp only at h
    exact a_vret hΓ hr dX8_putNumber_28 ⟨_, rfl, rfl, h⟩
  · rw [if_neg c2] at h
    refine a_aload_n hΓ 0 dX8_putNumber_6 rfl rfl ?_
    refine a_bipush hΓ dX8_putNumber_7 (by decide) ?_
    refine a_iload_n hΓ 1 dX8_putNumber_9 rfl rfl ?_
    refine a_bipush hΓ dX8_putNumber_10 (by decide) ?_
    refine a_idiv hΓ g1 (inRl (by decide)) (by decide) dX8_putNumber_12 ?_
    refine a_iadd hΓ dX8_putNumber_13 ?_
    obtain ⟨P7, q8, h⟩ := h
    refine n_callV (c := 86) (av := [aI (48 + (Int.tdiv v1 10))]) (st := []) hΓ (ct_wX8_put _ _ (48 + (Int.tdiv v1 10)) M P7 q8) my_X8_put ml_RX8_53 ni_X8_put kd_86 rfl lz_86 rfl (Nat.le_trans (by decide) hh) (by decide) (Nat.le_of_ble_eq_true rfl) rfl dX8_putNumber_14 (fun v Z' hq => ?_)
    obtain ⟨M10, rfl, rfl, hq⟩ := hq
    have h := h M10 hq
    dsimp only at h
    refine a_aload_n hΓ 0 dX8_putNumber_17 rfl rfl ?_
    refine a_bipush hΓ dX8_putNumber_18 (by decide) ?_
    refine a_iload_n hΓ 1 dX8_putNumber_20 rfl rfl ?_
    refine a_bipush hΓ dX8_putNumber_21 (by decide) ?_
    refine a_irem hΓ g1 (inRl (by decide)) (by decide) dX8_putNumber_23 ?_
    refine a_iadd hΓ dX8_putNumber_24 ?_
    obtain ⟨P11, q12, h⟩ := h
    refine n_callV (c := 86) (av := [aI (48 + (Int.tmod v1 10))]) (st := []) hΓ (ct_wX8_put _ _ (48 + (Int.tmod v1 10)) M10 P11 q12) my_X8_put ml_RX8_53 ni_X8_put kd_86 rfl lz_86 rfl (Nat.le_trans (by decide) hh) (by decide) (Nat.le_of_ble_eq_true rfl) rfl dX8_putNumber_25 (fun v Z' hq => ?_)
    obtain ⟨M14, rfl, rfl, hq⟩ := hq
    have h := h M14 hq
    dsimp only at h
    exact a_vret hΓ hr dX8_putNumber_28 ⟨_, rfl, rfl, h⟩
theorem ct_wX8_putNumber (l : Launch) (g : Gp) (v1 : Int) (M : Mm) (Q : Mm → Prop) (h : wX8_putNumber v1 M Q) : Ct l g yX8_putNumber cX8_putNumber 2 none 2 0 0 [aR 86, aI v1] (NC, RF, M) (QV Q) :=
  ct_of (by decide) (Nat.le_of_ble_eq_true rfl) (fun Γ hg hl hr _ hΓ => by subst hg; subst hl; exact s_wX8_putNumber hΓ (by decide) hr v1 M h)
def wX8_writeGroup_2 (Q : Mm → Prop) (v1 : Int) (v2 : Int) : Nat → Int → Mm → Prop
  | 0, _, _ => False
  | f + 1, v3, M => (inR v3) ∧
    (if v3 < 24 then
      (if (landI (shrI v2 v3) 1) = 1 then
        (inR v1) ∧
        (if v3 ≤ v1 then
          Bv (wX8_putNumber v3 M) (fun M9 =>
          (wX8_writeGroup_2 Q v1 v2 f) (v3 + 1) M9)
        else
          Bv (wX8_put 44 M) (fun M13 =>
          Bv (wX8_putNumber v3 M13) (fun M17 =>
          (wX8_writeGroup_2 Q v1 v2 f) (v3 + 1) M17)))
      else
        (wX8_writeGroup_2 Q v1 v2 f) (v3 + 1) M)
    else
      Bv (wX8_put 59 M) (fun M21 =>
      Q M21))
set_option maxHeartbeats 4000000 in
theorem s_wX8_writeGroup_2 {Γ : Cx} {h : Nat} (hΓ : Ok Γ cX8_writeGroup RX8 4 h 0 0) (hh : 3 ≤ h) (hr : (cxm Γ).sig.returnType = none) {Q : Mm → Prop} {v1 v2 : Int}   : ∀ (f : Nat) (v3 : Int) (M : Mm), wX8_writeGroup_2 Q v1 v2 f v3 M → Wa Γ 4 (Kf Γ (QV Q) 0 0) 0 0 2 [(0, aR 86), (1, aI v1), (2, aI v2), (3, aI v3)] [] (NC, RF, M) := by
  intro f
  induction f with
  | zero => intro v3 M h; exact h.elim
  | succ f ih =>
    intro v3 M h
    unfold wX8_writeGroup_2 at h
    refine a_iload_n hΓ 3 dX8_writeGroup_2 rfl rfl ?_
    refine a_bipush hΓ dX8_writeGroup_3 (by decide) ?_
    obtain ⟨g1, h⟩ := h
    refine a_icmp_ge (tgt := 39) hΓ g1 (inRl (by decide)) dX8_writeGroup_5 (by decide) (fun c2 => ?_) (fun c2 => ?_)
    · rw [if_pos c2] at h
      refine a_iload_n hΓ 2 dX8_writeGroup_8 rfl rfl ?_
      refine a_iload_n hΓ 3 dX8_writeGroup_9 rfl rfl ?_
      refine a_ishr hΓ dX8_writeGroup_10 ?_
      refine a_iconst hΓ dX8_writeGroup_11 ?_
      refine a_iand hΓ dX8_writeGroup_12 ?_
      refine a_iconst hΓ dX8_writeGroup_13 ?_
      refine a_icmp_ne (tgt := 33) hΓ (inR_land _ _) (inRl (by decide)) dX8_writeGroup_14 (by decide) (fun c3 => ?_) (fun c3 => ?_)
      · rw [if_pos c3] at h
        refine a_iload_n hΓ 3 dX8_writeGroup_17 rfl rfl ?_
        refine a_iload_n hΓ 1 dX8_writeGroup_18 rfl rfl ?_
        obtain ⟨g4, h⟩ := h
        refine a_icmp_le (tgt := 28) hΓ g1 g4 dX8_writeGroup_19 (by decide) (fun c5 => ?_) (fun c5 => ?_)
        · rw [if_pos c5] at h
          refine a_aload_n hΓ 0 dX8_writeGroup_28 rfl rfl ?_
          refine a_iload_n hΓ 3 dX8_writeGroup_29 rfl rfl ?_
          obtain ⟨P6, q7, h⟩ := h
          refine n_callV (c := 86) (av := [aI v3]) (st := []) hΓ (ct_wX8_putNumber _ _ v3 M P6 q7) my_X8_putNumber ml_RX8_56 ni_X8_putNumber kd_86 rfl lz_86 rfl (Nat.le_trans (by decide) hh) (by decide) (Nat.le_of_ble_eq_true rfl) rfl dX8_writeGroup_30 (fun v Z' hq => ?_)
          obtain ⟨M9, rfl, rfl, hq⟩ := hq
          have h := h M9 hq
          dsimp only at h
          refine a_iinc (ls' := [(3, aI (v3 + 1)), (0, aR 86), (1, aI v1), (2, aI v2)]) hΓ 3 dX8_writeGroup_33 rfl (by decide) rfl ?_
          refine a_goto (tgt := 2) hΓ dX8_writeGroup_36 (by decide) ?_
          refine a_sub (ls' := [(0, aR 86), (1, aI v1), (2, aI v2), (3, aI (v3 + 1))]) [1, 2, 3, 0] rfl ?_
          exact ih (v3 + 1) M9 h
        · rw [if_neg c5] at h
          refine a_aload_n hΓ 0 dX8_writeGroup_22 rfl rfl ?_
          refine a_bipush hΓ dX8_writeGroup_23 (by decide) ?_
          obtain ⟨P10, q11, h⟩ := h
          refine n_callV (c := 86) (av := [aI 44]) (st := []) hΓ (ct_wX8_put _ _ 44 M P10 q11) my_X8_put ml_RX8_53 ni_X8_put kd_86 rfl lz_86 rfl (Nat.le_trans (by decide) hh) (by decide) (Nat.le_of_ble_eq_true rfl) rfl dX8_writeGroup_25 (fun v Z' hq => ?_)
          obtain ⟨M13, rfl, rfl, hq⟩ := hq
          have h := h M13 hq
          dsimp only at h
          refine a_aload_n hΓ 0 dX8_writeGroup_28 rfl rfl ?_
          refine a_iload_n hΓ 3 dX8_writeGroup_29 rfl rfl ?_
          obtain ⟨P14, q15, h⟩ := h
          refine n_callV (c := 86) (av := [aI v3]) (st := []) hΓ (ct_wX8_putNumber _ _ v3 M13 P14 q15) my_X8_putNumber ml_RX8_56 ni_X8_putNumber kd_86 rfl lz_86 rfl (Nat.le_trans (by decide) hh) (by decide) (Nat.le_of_ble_eq_true rfl) rfl dX8_writeGroup_30 (fun v Z' hq => ?_)
          obtain ⟨M17, rfl, rfl, hq⟩ := hq
          have h := h M17 hq
          dsimp only at h
          refine a_iinc (ls' := [(3, aI (v3 + 1)), (0, aR 86), (1, aI v1), (2, aI v2)]) hΓ 3 dX8_writeGroup_33 rfl (by decide) rfl ?_
          refine a_goto (tgt := 2) hΓ dX8_writeGroup_36 (by decide) ?_
          refine a_sub (ls' := [(0, aR 86), (1, aI v1), (2, aI v2), (3, aI (v3 + 1))]) [1, 2, 3, 0] rfl ?_
          exact ih (v3 + 1) M17 h
      · rw [if_neg c3] at h
        refine a_iinc (ls' := [(3, aI (v3 + 1)), (0, aR 86), (1, aI v1), (2, aI v2)]) hΓ 3 dX8_writeGroup_33 rfl (by decide) rfl ?_
        refine a_goto (tgt := 2) hΓ dX8_writeGroup_36 (by decide) ?_
        refine a_sub (ls' := [(0, aR 86), (1, aI v1), (2, aI v2), (3, aI (v3 + 1))]) [1, 2, 3, 0] rfl ?_
        exact ih (v3 + 1) M h
    · rw [if_neg c2] at h
      refine a_aload_n hΓ 0 dX8_writeGroup_39 rfl rfl ?_
      refine a_bipush hΓ dX8_writeGroup_40 (by decide) ?_
      obtain ⟨P18, q19, h⟩ := h
      refine n_callV (c := 86) (av := [aI 59]) (st := []) hΓ (ct_wX8_put _ _ 59 M P18 q19) my_X8_put ml_RX8_53 ni_X8_put kd_86 rfl lz_86 rfl (Nat.le_trans (by decide) hh) (by decide) (Nat.le_of_ble_eq_true rfl) rfl dX8_writeGroup_42 (fun v Z' hq => ?_)
      obtain ⟨M21, rfl, rfl, hq⟩ := hq
      have h := h M21 hq
      dsimp only at h
      exact a_vret hΓ hr dX8_writeGroup_45 ⟨_, rfl, rfl, h⟩
def wX8_writeGroup (v1 : Int) (v2 : Int) (M : Mm) (Q : Mm → Prop) : Prop :=
    ∃ n, wX8_writeGroup_2 Q v1 v2 n v1 M
set_option maxHeartbeats 4000000 in
theorem s_wX8_writeGroup {Γ : Cx} {h : Nat} (hΓ : Ok Γ cX8_writeGroup RX8 4 h 0 0) (hh : 3 ≤ h) (hr : (cxm Γ).sig.returnType = none) {Q : Mm → Prop} (v1 : Int) (v2 : Int) (M : Mm) (h : wX8_writeGroup v1 v2 M Q) : Wa Γ 4 (Kf Γ (QV Q) 0 0) 0 0 0 [(0, aR 86), (1, aI v1), (2, aI v2)] [] (NC, RF, M) := by
  unfold wX8_writeGroup at h
  refine a_iload_n hΓ 1 dX8_writeGroup_0 rfl rfl ?_
  refine a_istore_n (ls' := [(3, aI v1), (0, aR 86), (1, aI v1), (2, aI v2)]) hΓ dX8_writeGroup_1 rfl (by decide) rfl ?_
  refine a_sub (ls' := [(0, aR 86), (1, aI v1), (2, aI v2), (3, aI v1)]) [1, 2, 3, 0] rfl ?_
  obtain ⟨f1, h⟩ := h
  exact s_wX8_writeGroup_2 hΓ (Nat.le_trans (by decide) hh) hr  f1 v1 M h
theorem ct_wX8_writeGroup (l : Launch) (g : Gp) (v1 : Int) (v2 : Int) (M : Mm) (Q : Mm → Prop) (h : wX8_writeGroup v1 v2 M Q) : Ct l g yX8_writeGroup cX8_writeGroup 4 none 3 0 0 [aR 86, aI v1, aI v2] (NC, RF, M) (QV Q) :=
  ct_of (by decide) (Nat.le_of_ble_eq_true rfl) (fun Γ hg hl hr _ hΓ => by subst hg; subst hl; exact s_wX8_writeGroup hΓ (by decide) hr v1 v2 M h)
def wX8_writeGroups_10 (Q : Mm → Prop) : Nat → Int → Int → Mm → Prop
  | 0, _, _, _ => False
  | f + 1, v2, v3, M => (inR v3) ∧
    (if v3 < 24 then
      (if (landI (shrI v2 v3) 1) = 1 then
        Bd (wX2_groupFrom v3 v2 M) (fun r6 M7 =>
        Bd (wJ6_bitCount_0f7a4 r6 M7) (fun r10 M11 =>
        (inR r10) ∧
        (if r10 ≤ 1 then
          (wX8_writeGroups_10 Q f) (landI v2 (lxorI r6 (-1))) (v3 + 1) M11
        else
          Bv (wX8_writeGroup v3 r6 M11) (fun M17 =>
          (wX8_writeGroups_10 Q f) (landI v2 (lxorI r6 (-1))) (v3 + 1) M17))))
      else
        (wX8_writeGroups_10 Q f) v2 (v3 + 1) M)
    else
      Bv (wX8_put 93 M) (fun M21 =>
      Q M21))
set_option maxHeartbeats 4000000 in
theorem s_wX8_writeGroups_10 {Γ : Cx} {h : Nat} (hΓ : Ok Γ cX8_writeGroups RX8 5 h 0 0) (hh : 4 ≤ h) (hr : (cxm Γ).sig.returnType = none) {Q : Mm → Prop}   : ∀ (f : Nat) (v2 : Int) (v3 : Int) (M : Mm), wX8_writeGroups_10 Q  f v2 v3 M → Wa Γ 5 (Kf Γ (QV Q) 0 0) 0 0 10 [(0, aR 86), (2, aI v2), (3, aI v3)] [] (NC, RF, M) := by
  intro f
  induction f with
  | zero => intro v2 v3 M h; exact h.elim
  | succ f ih =>
    intro v2 v3 M h
    unfold wX8_writeGroups_10 at h
    refine a_iload_n hΓ 2 dX8_writeGroups_10 rfl rfl ?_
    refine a_bipush hΓ dX8_writeGroups_11 (by decide) ?_
    obtain ⟨g1, h⟩ := h
    refine a_icmp_ge (tgt := 65) hΓ g1 (inRl (by decide)) dX8_writeGroups_13 (by decide) (fun c2 => ?_) (fun c2 => ?_)
    · rw [if_pos c2] at h
      refine a_iload_n hΓ 1 dX8_writeGroups_16 rfl rfl ?_
      refine a_iload_n hΓ 2 dX8_writeGroups_17 rfl rfl ?_
      refine a_ishr hΓ dX8_writeGroups_18 ?_
      refine a_iconst hΓ dX8_writeGroups_19 ?_
      refine a_iand hΓ dX8_writeGroups_20 ?_
      refine a_iconst hΓ dX8_writeGroups_21 ?_
      refine a_icmp_ne (tgt := 59) hΓ (inR_land _ _) (inRl (by decide)) dX8_writeGroups_22 (by decide) (fun c3 => ?_) (fun c3 => ?_)
      · rw [if_pos c3] at h
        refine a_aload_n hΓ 0 dX8_writeGroups_25 rfl rfl ?_
        refine n_getR hΓ fl_RX8_15 cl_8 kd_86 lz_86 dX8_writeGroups_26 ft_8_0 rf_86_0 ?_
        refine a_iload_n hΓ 2 dX8_writeGroups_29 rfl rfl ?_
        refine a_iload_n hΓ 1 dX8_writeGroups_30 rfl rfl ?_
        obtain ⟨P4, q5, h⟩ := h
        refine n_callV (c := 83) (av := [aI v3, aI v2]) (st := []) hΓ (ct_wX2_groupFrom _ _ v3 v2 M P4 q5) my_X2_groupFrom ml_RX8_65 ni_X2_groupFrom kd_83 rfl lz_83 rfl (Nat.le_trans (by decide) hh) (by decide) (Nat.le_of_ble_eq_true rfl) rfl dX8_writeGroups_31 (fun v Z' hq => ?_)
        obtain ⟨r6, M7, rfl, rfl, hq⟩ := hq
        have h := h r6 M7 hq
        dsimp only at h
        refine a_istore (ls' := [(4, aI r6), (0, aR 86), (2, aI v2), (3, aI v3)]) hΓ dX8_writeGroups_34 (by decide) rfl ?_
        refine a_iload_n hΓ 2 dX8_writeGroups_36 rfl rfl ?_
        refine a_iload hΓ 0 dX8_writeGroups_37 rfl ?_
        refine a_iconst hΓ dX8_writeGroups_39 ?_
        refine a_ixor hΓ dX8_writeGroups_40 ?_
        refine a_iand hΓ dX8_writeGroups_41 ?_
        refine a_istore_n (ls' := [(2, aI (landI v2 (lxorI r6 (-1)))), (4, aI r6), (0, aR 86), (3, aI v3)]) hΓ dX8_writeGroups_42 rfl (by decide) rfl ?_
        refine a_iload hΓ 1 dX8_writeGroups_43 rfl ?_
        obtain ⟨P8, q9, h⟩ := h
        refine n_callS (av := [aI r6]) (st := []) hΓ (ct_wJ6_bitCount_0f7a4 _ _ r6 M7 P8 q9) my_J6_bitCount_0f7a4 ml_RX8_72 rfl (Nat.le_trans (by decide) hh) (by decide) (Nat.le_of_ble_eq_true rfl) rfl dX8_writeGroups_45 (fun v Z' hq => ?_)
        obtain ⟨r10, M11, rfl, rfl, hq⟩ := hq
        have h := h r10 M11 hq
        dsimp only at h
        refine a_iconst hΓ dX8_writeGroups_48 ?_
        obtain ⟨g12, h⟩ := h
        refine a_icmp_le (tgt := 59) hΓ g12 (inRl (by decide)) dX8_writeGroups_49 (by decide) (fun c13 => ?_) (fun c13 => ?_)
        · rw [if_pos c13] at h
          refine a_iinc (ls' := [(3, aI (v3 + 1)), (2, aI (landI v2 (lxorI r6 (-1)))), (4, aI r6), (0, aR 86)]) hΓ 3 dX8_writeGroups_59 rfl (by decide) rfl ?_
          refine a_goto (tgt := 10) hΓ dX8_writeGroups_62 (by decide) ?_
          refine a_sub (ls' := [(0, aR 86), (2, aI (landI v2 (lxorI r6 (-1)))), (3, aI (v3 + 1))]) [3, 1, 0] rfl ?_
          exact ih (landI v2 (lxorI r6 (-1))) (v3 + 1) M11 h
        · rw [if_neg c13] at h
          refine a_aload_n hΓ 2 dX8_writeGroups_52 rfl rfl ?_
          refine a_iload_n hΓ 3 dX8_writeGroups_53 rfl rfl ?_
          refine a_iload hΓ 1 dX8_writeGroups_54 rfl ?_
          obtain ⟨P14, q15, h⟩ := h
          refine n_callV (c := 86) (av := [aI v3, aI r6]) (st := []) hΓ (ct_wX8_writeGroup _ _ v3 r6 M11 P14 q15) my_X8_writeGroup ml_RX8_77 ni_X8_writeGroup kd_86 rfl lz_86 rfl (Nat.le_trans (by decide) hh) (by decide) (Nat.le_of_ble_eq_true rfl) rfl dX8_writeGroups_56 (fun v Z' hq => ?_)
          obtain ⟨M17, rfl, rfl, hq⟩ := hq
          have h := h M17 hq
          dsimp only at h
          refine a_iinc (ls' := [(3, aI (v3 + 1)), (2, aI (landI v2 (lxorI r6 (-1)))), (4, aI r6), (0, aR 86)]) hΓ 3 dX8_writeGroups_59 rfl (by decide) rfl ?_
          refine a_goto (tgt := 10) hΓ dX8_writeGroups_62 (by decide) ?_
          refine a_sub (ls' := [(0, aR 86), (2, aI (landI v2 (lxorI r6 (-1)))), (3, aI (v3 + 1))]) [3, 1, 0] rfl ?_
          exact ih (landI v2 (lxorI r6 (-1))) (v3 + 1) M17 h
      · rw [if_neg c3] at h
        refine a_iinc (ls' := [(3, aI (v3 + 1)), (0, aR 86), (2, aI v2)]) hΓ 2 dX8_writeGroups_59 rfl (by decide) rfl ?_
        refine a_goto (tgt := 10) hΓ dX8_writeGroups_62 (by decide) ?_
        refine a_sub (ls' := [(0, aR 86), (2, aI v2), (3, aI (v3 + 1))]) [1, 2, 0] rfl ?_
        exact ih v2 (v3 + 1) M h
    · rw [if_neg c2] at h
      refine a_aload_n hΓ 0 dX8_writeGroups_65 rfl rfl ?_
      refine a_bipush hΓ dX8_writeGroups_66 (by decide) ?_
      obtain ⟨P18, q19, h⟩ := h
      refine n_callV (c := 86) (av := [aI 93]) (st := []) hΓ (ct_wX8_put _ _ 93 M P18 q19) my_X8_put ml_RX8_53 ni_X8_put kd_86 rfl lz_86 rfl (Nat.le_trans (by decide) hh) (by decide) (Nat.le_of_ble_eq_true rfl) rfl dX8_writeGroups_68 (fun v Z' hq => ?_)
      obtain ⟨M21, rfl, rfl, hq⟩ := hq
      have h := h M21 hq
      dsimp only at h
      exact a_vret hΓ hr dX8_writeGroups_71 ⟨_, rfl, rfl, h⟩
def wX8_writeGroups (v1 : Int) (M : Mm) (Q : Mm → Prop) : Prop :=
    Bv (wX8_put 91 M) (fun M4 =>
    ∃ n, wX8_writeGroups_10 Q n v1 0 M4)
set_option maxHeartbeats 4000000 in
theorem s_wX8_writeGroups {Γ : Cx} {h : Nat} (hΓ : Ok Γ cX8_writeGroups RX8 5 h 0 0) (hh : 4 ≤ h) (hr : (cxm Γ).sig.returnType = none) {Q : Mm → Prop} (v1 : Int) (M : Mm) (h : wX8_writeGroups v1 M Q) : Wa Γ 5 (Kf Γ (QV Q) 0 0) 0 0 0 [(0, aR 86), (1, aI v1)] [] (NC, RF, M) := by
  unfold wX8_writeGroups at h
  refine a_iload_n hΓ 1 dX8_writeGroups_0 rfl rfl ?_
  refine a_istore_n (ls' := [(2, aI v1), (0, aR 86), (1, aI v1)]) hΓ dX8_writeGroups_1 rfl (by decide) rfl ?_
  refine a_aload_n hΓ 1 dX8_writeGroups_2 rfl rfl ?_
  refine a_bipush hΓ dX8_writeGroups_3 (by decide) ?_
  obtain ⟨P1, q2, h⟩ := h
  refine n_callV (c := 86) (av := [aI 91]) (st := []) hΓ (ct_wX8_put _ _ 91 M P1 q2) my_X8_put ml_RX8_53 ni_X8_put kd_86 rfl lz_86 rfl (Nat.le_trans (by decide) hh) (by decide) (Nat.le_of_ble_eq_true rfl) rfl dX8_writeGroups_5 (fun v Z' hq => ?_)
  obtain ⟨M4, rfl, rfl, hq⟩ := hq
  have h := h M4 hq
  dsimp only at h
  refine a_iconst hΓ dX8_writeGroups_8 ?_
  refine a_istore_n (ls' := [(3, aI 0), (2, aI v1), (0, aR 86), (1, aI v1)]) hΓ dX8_writeGroups_9 rfl (by decide) rfl ?_
  refine a_sub (ls' := [(0, aR 86), (2, aI v1), (3, aI 0)]) [2, 1, 0] rfl ?_
  obtain ⟨f5, h⟩ := h
  exact s_wX8_writeGroups_10 hΓ (Nat.le_trans (by decide) hh) hr  f5 v1 0 M4 h
theorem ct_wX8_writeGroups (l : Launch) (g : Gp) (v1 : Int) (M : Mm) (Q : Mm → Prop) (h : wX8_writeGroups v1 M Q) : Ct l g yX8_writeGroups cX8_writeGroups 5 none 4 0 0 [aR 86, aI v1] (NC, RF, M) (QV Q) :=
  ct_of (by decide) (Nat.le_of_ble_eq_true rfl) (fun Γ hg hl hr _ hΓ => by subst hg; subst hl; exact s_wX8_writeGroups hΓ (by decide) hr v1 M h)
def wX2_greatestWorth_4 (Q : Int → Mm → Prop) (v1 : Int) : Nat → Int → Int → Mm → Prop
  | 0, _, _, _ => False
  | f + 1, v2, v3, M => (inR v3) ∧
    (if v3 < 24 then
      (if (landI (shrI v1 v3) 1) = 1 then
        (0 ≤ v3 ∧ v3 < 24) ∧
        Bd (wJ9_max_7cf53 v2 (M 20 v3) M) (fun r7 M8 =>
        (wX2_greatestWorth_4 Q v1 f) r7 (v3 + 1) M8)
      else
        (wX2_greatestWorth_4 Q v1 f) v2 (v3 + 1) M)
    else
      Q v2 M)
set_option maxHeartbeats 4000000 in
theorem s_wX2_greatestWorth_4 {Γ : Cx} {h : Nat} (hΓ : Ok Γ cX2_greatestWorth RX2 4 h 0 0) (hh : 2 ≤ h) (hr : (cxm Γ).sig.returnType = (some .int)) {Q : Int → Mm → Prop} {v1 : Int}   : ∀ (f : Nat) (v2 : Int) (v3 : Int) (M : Mm), wX2_greatestWorth_4 Q v1 f v2 v3 M → Wa Γ 4 (Kf Γ (QI Q) 0 0) 0 0 4 [(0, aR 83), (1, aI v1), (2, aI v2), (3, aI v3)] [] (NC, RF, M) := by
  intro f
  induction f with
  | zero => intro v2 v3 M h; exact h.elim
  | succ f ih =>
    intro v2 v3 M h
    unfold wX2_greatestWorth_4 at h
    refine a_iload_n hΓ 3 dX2_greatestWorth_4 rfl rfl ?_
    refine a_bipush hΓ dX2_greatestWorth_5 (by decide) ?_
    obtain ⟨g1, h⟩ := h
    refine a_icmp_ge (tgt := 36) hΓ g1 (inRl (by decide)) dX2_greatestWorth_7 (by decide) (fun c2 => ?_) (fun c2 => ?_)
    · rw [if_pos c2] at h
      refine a_iload_n hΓ 1 dX2_greatestWorth_10 rfl rfl ?_
      refine a_iload_n hΓ 3 dX2_greatestWorth_11 rfl rfl ?_
      refine a_ishr hΓ dX2_greatestWorth_12 ?_
      refine a_iconst hΓ dX2_greatestWorth_13 ?_
      refine a_iand hΓ dX2_greatestWorth_14 ?_
      refine a_iconst hΓ dX2_greatestWorth_15 ?_
      refine a_icmp_ne (tgt := 30) hΓ (inR_land _ _) (inRl (by decide)) dX2_greatestWorth_16 (by decide) (fun c3 => ?_) (fun c3 => ?_)
      · rw [if_pos c3] at h
        refine a_iload_n hΓ 2 dX2_greatestWorth_19 rfl rfl ?_
        refine a_aload_n hΓ 0 dX2_greatestWorth_20 rfl rfl ?_
        refine n_getR hΓ fl_RX2_36 cl_2 kd_83 lz_83 dX2_greatestWorth_21 ft_2_1 rf_83_1 ?_
        refine a_iload_n hΓ 3 dX2_greatestWorth_24 rfl rfl ?_
        obtain ⟨g4, h⟩ := h
        refine n_iald (x := (M 20 v3)) hΓ dX2_greatestWorth_25 kd_20 lz_20 g4 rfl ?_
        obtain ⟨P5, q6, h⟩ := h
        refine n_callS (av := [aI v2, aI (M 20 v3)]) (st := []) hΓ (ct_wJ9_max_7cf53 _ _ v2 (M 20 v3) M P5 q6) my_J9_max_7cf53 ml_RX2_79 rfl (Nat.le_trans (by decide) hh) (by decide) (Nat.le_of_ble_eq_true rfl) rfl dX2_greatestWorth_26 (fun v Z' hq => ?_)
        obtain ⟨r7, M8, rfl, rfl, hq⟩ := hq
        have h := h r7 M8 hq
        dsimp only at h
        refine a_istore_n (ls' := [(2, aI r7), (0, aR 83), (1, aI v1), (3, aI v3)]) hΓ dX2_greatestWorth_29 rfl (by decide) rfl ?_
        refine a_iinc (ls' := [(3, aI (v3 + 1)), (2, aI r7), (0, aR 83), (1, aI v1)]) hΓ 3 dX2_greatestWorth_30 rfl (by decide) rfl ?_
        refine a_goto (tgt := 4) hΓ dX2_greatestWorth_33 (by decide) ?_
        refine a_sub (ls' := [(0, aR 83), (1, aI v1), (2, aI r7), (3, aI (v3 + 1))]) [2, 3, 1, 0] rfl ?_
        exact ih r7 (v3 + 1) M8 h
      · rw [if_neg c3] at h
        refine a_iinc (ls' := [(3, aI (v3 + 1)), (0, aR 83), (1, aI v1), (2, aI v2)]) hΓ 3 dX2_greatestWorth_30 rfl (by decide) rfl ?_
        refine a_goto (tgt := 4) hΓ dX2_greatestWorth_33 (by decide) ?_
        refine a_sub (ls' := [(0, aR 83), (1, aI v1), (2, aI v2), (3, aI (v3 + 1))]) [1, 2, 3, 0] rfl ?_
        exact ih v2 (v3 + 1) M h
    · rw [if_neg c2] at h
      refine a_iload_n hΓ 2 dX2_greatestWorth_36 rfl rfl ?_
      exact a_iret hΓ hr dX2_greatestWorth_37 ⟨_, _, rfl, rfl, h⟩
def wX2_greatestWorth (v1 : Int) (M : Mm) (Q : Int → Mm → Prop) : Prop :=
    ∃ n, wX2_greatestWorth_4 Q v1 n 0 0 M
set_option maxHeartbeats 4000000 in
theorem s_wX2_greatestWorth {Γ : Cx} {h : Nat} (hΓ : Ok Γ cX2_greatestWorth RX2 4 h 0 0) (hh : 2 ≤ h) (hr : (cxm Γ).sig.returnType = (some .int)) {Q : Int → Mm → Prop} (v1 : Int) (M : Mm) (h : wX2_greatestWorth v1 M Q) : Wa Γ 4 (Kf Γ (QI Q) 0 0) 0 0 0 [(0, aR 83), (1, aI v1)] [] (NC, RF, M) := by
  unfold wX2_greatestWorth at h
  refine a_iconst hΓ dX2_greatestWorth_0 ?_
  refine a_istore_n (ls' := [(2, aI 0), (0, aR 83), (1, aI v1)]) hΓ dX2_greatestWorth_1 rfl (by decide) rfl ?_
  refine a_iconst hΓ dX2_greatestWorth_2 ?_
  refine a_istore_n (ls' := [(3, aI 0), (2, aI 0), (0, aR 83), (1, aI v1)]) hΓ dX2_greatestWorth_3 rfl (by decide) rfl ?_
  refine a_sub (ls' := [(0, aR 83), (1, aI v1), (2, aI 0), (3, aI 0)]) [2, 3, 1, 0] rfl ?_
  obtain ⟨f1, h⟩ := h
  exact s_wX2_greatestWorth_4 hΓ (Nat.le_trans (by decide) hh) hr  f1 0 0 M h
theorem ct_wX2_greatestWorth (l : Launch) (g : Gp) (v1 : Int) (M : Mm) (Q : Int → Mm → Prop) (h : wX2_greatestWorth v1 M Q) : Ct l g yX2_greatestWorth cX2_greatestWorth 4 (some .int) 2 0 0 [aR 83, aI v1] (NC, RF, M) (QI Q) :=
  ct_of (by decide) (Nat.le_of_ble_eq_true rfl) (fun Γ hg hl hr _ hΓ => by subst hg; subst hl; exact s_wX2_greatestWorth hΓ (by decide) hr v1 M h)
def wX8_bound_7 (Q : Int → Mm → Prop) : Nat → Int → Int → Int → Mm → Prop
  | 0, _, _, _, _ => False
  | f + 1, v2, v3, v4, M => (inR v4) ∧
    (if v4 < 24 then
      (if (landI (shrI v2 v4) 1) = 1 then
        Bd (wX2_groupFrom v4 v2 M) (fun r6 M7 =>
        Bd (wX2_greatestWorth r6 M7) (fun r10 M11 =>
        (wX8_bound_7 Q f) (landI v2 (lxorI r6 (-1))) (v3 + r10) (v4 + 1) M11))
      else
        (wX8_bound_7 Q f) v2 v3 (v4 + 1) M)
    else
      Q v3 M)
set_option maxHeartbeats 4000000 in
theorem s_wX8_bound_7 {Γ : Cx} {h : Nat} (hΓ : Ok Γ cX8_bound RX8 6 h 0 0) (hh : 3 ≤ h) (hr : (cxm Γ).sig.returnType = (some .int)) {Q : Int → Mm → Prop}   : ∀ (f : Nat) (v2 : Int) (v3 : Int) (v4 : Int) (M : Mm), wX8_bound_7 Q  f v2 v3 v4 M → Wa Γ 6 (Kf Γ (QI Q) 0 0) 0 0 7 [(0, aR 86), (2, aI v2), (3, aI v3), (4, aI v4)] [] (NC, RF, M) := by
  intro f
  induction f with
  | zero => intro v2 v3 v4 M h; exact h.elim
  | succ f ih =>
    intro v2 v3 v4 M h
    unfold wX8_bound_7 at h
    refine a_iload hΓ 3 dX8_bound_7 rfl ?_
    refine a_bipush hΓ dX8_bound_9 (by decide) ?_
    obtain ⟨g1, h⟩ := h
    refine a_icmp_ge (tgt := 61) hΓ g1 (inRl (by decide)) dX8_bound_11 (by decide) (fun c2 => ?_) (fun c2 => ?_)
    · rw [if_pos c2] at h
      refine a_iload_n hΓ 1 dX8_bound_14 rfl rfl ?_
      refine a_iload hΓ 3 dX8_bound_15 rfl ?_
      refine a_ishr hΓ dX8_bound_17 ?_
      refine a_iconst hΓ dX8_bound_18 ?_
      refine a_iand hΓ dX8_bound_19 ?_
      refine a_iconst hΓ dX8_bound_20 ?_
      refine a_icmp_ne (tgt := 55) hΓ (inR_land _ _) (inRl (by decide)) dX8_bound_21 (by decide) (fun c3 => ?_) (fun c3 => ?_)
      · rw [if_pos c3] at h
        refine a_aload_n hΓ 0 dX8_bound_24 rfl rfl ?_
        refine n_getR hΓ fl_RX8_15 cl_8 kd_86 lz_86 dX8_bound_25 ft_8_0 rf_86_0 ?_
        refine a_iload hΓ 3 dX8_bound_28 rfl ?_
        refine a_iload_n hΓ 1 dX8_bound_30 rfl rfl ?_
        obtain ⟨P4, q5, h⟩ := h
        refine n_callV (c := 83) (av := [aI v4, aI v2]) (st := []) hΓ (ct_wX2_groupFrom _ _ v4 v2 M P4 q5) my_X2_groupFrom ml_RX8_65 ni_X2_groupFrom kd_83 rfl lz_83 rfl (Nat.le_trans (by decide) hh) (by decide) (Nat.le_of_ble_eq_true rfl) rfl dX8_bound_31 (fun v Z' hq => ?_)
        obtain ⟨r6, M7, rfl, rfl, hq⟩ := hq
        have h := h r6 M7 hq
        dsimp only at h
        refine a_istore (ls' := [(5, aI r6), (0, aR 86), (2, aI v2), (3, aI v3), (4, aI v4)]) hΓ dX8_bound_34 (by decide) rfl ?_
        refine a_iload_n hΓ 2 dX8_bound_36 rfl rfl ?_
        refine a_iload hΓ 0 dX8_bound_37 rfl ?_
        refine a_iconst hΓ dX8_bound_39 ?_
        refine a_ixor hΓ dX8_bound_40 ?_
        refine a_iand hΓ dX8_bound_41 ?_
        refine a_istore_n (ls' := [(2, aI (landI v2 (lxorI r6 (-1)))), (5, aI r6), (0, aR 86), (3, aI v3), (4, aI v4)]) hΓ dX8_bound_42 rfl (by decide) rfl ?_
        refine a_iload_n hΓ 3 dX8_bound_43 rfl rfl ?_
        refine a_aload_n hΓ 2 dX8_bound_44 rfl rfl ?_
        refine n_getR hΓ fl_RX8_15 cl_8 kd_86 lz_86 dX8_bound_45 ft_8_0 rf_86_0 ?_
        refine a_iload hΓ 1 dX8_bound_48 rfl ?_
        obtain ⟨P8, q9, h⟩ := h
        refine n_callV (c := 83) (av := [aI r6]) (st := [aI v3]) hΓ (ct_wX2_greatestWorth _ _ r6 M7 P8 q9) my_X2_greatestWorth ml_RX8_69 ni_X2_greatestWorth kd_83 rfl lz_83 rfl (Nat.le_trans (by decide) hh) (by decide) (Nat.le_of_ble_eq_true rfl) rfl dX8_bound_50 (fun v Z' hq => ?_)
        obtain ⟨r10, M11, rfl, rfl, hq⟩ := hq
        have h := h r10 M11 hq
        dsimp only at h
        refine a_iadd hΓ dX8_bound_53 ?_
        refine a_istore_n (ls' := [(3, aI (v3 + r10)), (2, aI (landI v2 (lxorI r6 (-1)))), (5, aI r6), (0, aR 86), (4, aI v4)]) hΓ dX8_bound_54 rfl (by decide) rfl ?_
        refine a_iinc (ls' := [(4, aI (v4 + 1)), (3, aI (v3 + r10)), (2, aI (landI v2 (lxorI r6 (-1)))), (5, aI r6), (0, aR 86)]) hΓ 4 dX8_bound_55 rfl (by decide) rfl ?_
        refine a_goto (tgt := 7) hΓ dX8_bound_58 (by decide) ?_
        refine a_sub (ls' := [(0, aR 86), (2, aI (landI v2 (lxorI r6 (-1)))), (3, aI (v3 + r10)), (4, aI (v4 + 1))]) [4, 2, 1, 0] rfl ?_
        exact ih (landI v2 (lxorI r6 (-1))) (v3 + r10) (v4 + 1) M11 h
      · rw [if_neg c3] at h
        refine a_iinc (ls' := [(4, aI (v4 + 1)), (0, aR 86), (2, aI v2), (3, aI v3)]) hΓ 3 dX8_bound_55 rfl (by decide) rfl ?_
        refine a_goto (tgt := 7) hΓ dX8_bound_58 (by decide) ?_
        refine a_sub (ls' := [(0, aR 86), (2, aI v2), (3, aI v3), (4, aI (v4 + 1))]) [1, 2, 3, 0] rfl ?_
        exact ih v2 v3 (v4 + 1) M h
    · rw [if_neg c2] at h
      refine a_iload_n hΓ 2 dX8_bound_61 rfl rfl ?_
      exact a_iret hΓ hr dX8_bound_62 ⟨_, _, rfl, rfl, h⟩
def wX8_bound (v1 : Int) (M : Mm) (Q : Int → Mm → Prop) : Prop :=
    ∃ n, wX8_bound_7 Q n v1 0 0 M
set_option maxHeartbeats 4000000 in
theorem s_wX8_bound {Γ : Cx} {h : Nat} (hΓ : Ok Γ cX8_bound RX8 6 h 0 0) (hh : 3 ≤ h) (hr : (cxm Γ).sig.returnType = (some .int)) {Q : Int → Mm → Prop} (v1 : Int) (M : Mm) (h : wX8_bound v1 M Q) : Wa Γ 6 (Kf Γ (QI Q) 0 0) 0 0 0 [(0, aR 86), (1, aI v1)] [] (NC, RF, M) := by
  unfold wX8_bound at h
  refine a_iload_n hΓ 1 dX8_bound_0 rfl rfl ?_
  refine a_istore_n (ls' := [(2, aI v1), (0, aR 86), (1, aI v1)]) hΓ dX8_bound_1 rfl (by decide) rfl ?_
  refine a_iconst hΓ dX8_bound_2 ?_
  refine a_istore_n (ls' := [(3, aI 0), (2, aI v1), (0, aR 86), (1, aI v1)]) hΓ dX8_bound_3 rfl (by decide) rfl ?_
  refine a_iconst hΓ dX8_bound_4 ?_
  refine a_istore (ls' := [(4, aI 0), (3, aI 0), (2, aI v1), (0, aR 86), (1, aI v1)]) hΓ dX8_bound_5 (by decide) rfl ?_
  refine a_sub (ls' := [(0, aR 86), (2, aI v1), (3, aI 0), (4, aI 0)]) [3, 2, 1, 0] rfl ?_
  obtain ⟨f1, h⟩ := h
  exact s_wX8_bound_7 hΓ (Nat.le_trans (by decide) hh) hr  f1 v1 0 0 M h
theorem ct_wX8_bound (l : Launch) (g : Gp) (v1 : Int) (M : Mm) (Q : Int → Mm → Prop) (h : wX8_bound v1 M Q) : Ct l g yX8_bound cX8_bound 6 (some .int) 3 0 0 [aR 86, aI v1] (NC, RF, M) (QI Q) :=
  ct_of (by decide) (Nat.le_of_ble_eq_true rfl) (fun Γ hg hl hr _ hΓ => by subst hg; subst hl; exact s_wX8_bound hΓ (by decide) hr v1 M h)
def wX8_write : Nat → Int → Int → Int → Mm → (Mm → Prop) → Prop
  | 0, _, _, _, _, _ => False
  | f + 1, v1, v2, v3, M, Q => (inR v3) ∧
    (if v3 ≤ 24 then
      (inR (M 86 4)) ∧
      (if (M 86 4) ≤ 2000 then
        Bd (wX2_busiest v1 M) (fun r7 M8 =>
        (inR r7) ∧
        (if r7 = (-1) then
          Bv (wX8_writeGroups v1 M8) (fun M14 =>
          Q M14)
        else
          Bd (wX8_bound v1 M8) (fun r17 M18 =>
          (inR (v2 + r17)) ∧
          (inR (M18 86 3)) ∧
          (if (v2 + r17) ≤ (M18 86 3) then
            Bv (wX8_writeGroups v1 M18) (fun M25 =>
            Q M25)
          else
            Bv (wX8_put 40 M18) (fun M29 =>
            Bv (wX8_putNumber r7 M29) (fun M33 =>
            (0 ≤ r7 ∧ r7 < 24) ∧
            Bv ((wX8_write f) (landI (landI v1 (lxorI (shlI 1 r7) (-1))) (lxorI (M33 84 r7) (-1))) (v2 + (M33 20 r7)) (v3 + 1) M33) (fun M38 =>
            Bv ((wX8_write f) (landI v1 (lxorI (shlI 1 r7) (-1))) v2 (v3 + 1) M38) (fun M42 =>
            Bv (wX8_put 41 M42) (fun M46 =>
            Q M46)))))))))
      else
        Q M)
    else
      Q M)
set_option maxHeartbeats 4000000 in
theorem s_wX8_write {Γ : Cx} {h : Nat} (hΓ : Ok Γ cX8_write RX8 6 h 0 0) (hh : 5 ≤ h) (hr : (cxm Γ).sig.returnType = none) {Q : Mm → Prop} {f : Nat}  {h0 : Nat} (hrc : ∀ (a0 : Int) (a1 : Int) (a2 : Int) (M : Mm) (Q : Mm → Prop), wX8_write f a0 a1 a2 M Q → Ct (cxl Γ) (cxg Γ) yX8_write cX8_write 6 none h0 0 0 [aR 86, aI a0, aI a1, aI a2] (NC, RF, M) (QV Q)) (hh0 : h0 + 1 ≤ h) (v1 : Int) (v2 : Int) (v3 : Int) (M : Mm) (h1 : wX8_write (f + 1) v1 v2 v3 M Q) : Wa Γ 6 (Kf Γ (QV Q) 0 0) 0 0 0 [(0, aR 86), (1, aI v1), (2, aI v2), (3, aI v3)] [] (NC, RF, M) := by
  have h := h1
  unfold wX8_write at h
  refine a_iload_n hΓ 3 dX8_write_0 rfl rfl ?_
  refine a_bipush hΓ dX8_write_1 (by decide) ?_
  obtain ⟨g1, h⟩ := h
  refine a_icmp_gt (tgt := 16) hΓ g1 (inRl (by decide)) dX8_write_3 (by decide) (fun c2 => ?_) (fun c2 => ?_)
  · rw [if_pos c2] at h
    refine a_aload_n hΓ 0 dX8_write_6 rfl rfl ?_
    refine n_getI (x := (M 86 4)) hΓ fl_RX8_23 cl_8 kd_86 lz_86 dX8_write_7 (Or.inl ft_8_4) rfl ?_
    refine a_sipush hΓ dX8_write_10 (by decide) ?_
    obtain ⟨g3, h⟩ := h
    refine a_icmp_le (tgt := 17) hΓ g3 (inRl (by decide)) dX8_write_13 (by decide) (fun c4 => ?_) (fun c4 => ?_)
    · rw [if_pos c4] at h
      refine a_aload_n hΓ 0 dX8_write_17 rfl rfl ?_
      refine n_getR hΓ fl_RX8_15 cl_8 kd_86 lz_86 dX8_write_18 ft_8_0 rf_86_0 ?_
      refine a_iload_n hΓ 1 dX8_write_21 rfl rfl ?_
      obtain ⟨P5, q6, h⟩ := h
      refine n_callV (c := 83) (av := [aI v1]) (st := []) hΓ (ct_wX2_busiest _ _ v1 M P5 q6) my_X2_busiest ml_RX8_42 ni_X2_busiest kd_83 rfl lz_83 rfl (Nat.le_trans (by decide) hh) (by decide) (Nat.le_of_ble_eq_true rfl) rfl dX8_write_22 (fun v Z' hq => ?_)
      obtain ⟨r7, M8, rfl, rfl, hq⟩ := hq
      have h := h r7 M8 hq
      dsimp only at h
      refine a_istore (ls' := [(4, aI r7), (0, aR 86), (1, aI v1), (2, aI v2), (3, aI v3)]) hΓ dX8_write_25 (by decide) rfl ?_
      refine a_iload hΓ 0 dX8_write_27 rfl ?_
      refine a_iconst hΓ dX8_write_29 ?_
      obtain ⟨g9, h⟩ := h
      refine a_icmp_eq (tgt := 47) hΓ g9 (inRl (by decide)) dX8_write_30 (by decide) (fun c10 => ?_) (fun c10 => ?_)
      · rw [if_pos c10] at h
        refine a_aload_n hΓ 1 dX8_write_47 rfl rfl ?_
        refine a_iload_n hΓ 2 dX8_write_48 rfl rfl ?_
        obtain ⟨P11, q12, h⟩ := h
        refine n_callV (c := 86) (av := [aI v1]) (st := []) hΓ (ct_wX8_writeGroups _ _ v1 M8 P11 q12) my_X8_writeGroups ml_RX8_49 ni_X8_writeGroups kd_86 rfl lz_86 rfl (Nat.le_trans (by decide) hh) (by decide) (Nat.le_of_ble_eq_true rfl) rfl dX8_write_49 (fun v Z' hq => ?_)
        obtain ⟨M14, rfl, rfl, hq⟩ := hq
        have h := h M14 hq
        dsimp only at h
        exact a_vret hΓ hr dX8_write_52 ⟨_, rfl, rfl, h⟩
      · rw [if_neg c10] at h
        refine a_iload_n hΓ 3 dX8_write_33 rfl rfl ?_
        refine a_aload_n hΓ 1 dX8_write_34 rfl rfl ?_
        refine a_iload_n hΓ 2 dX8_write_35 rfl rfl ?_
        obtain ⟨P15, q16, h⟩ := h
        refine n_callV (c := 86) (av := [aI v1]) (st := [aI v2]) hΓ (ct_wX8_bound _ _ v1 M8 P15 q16) my_X8_bound ml_RX8_46 ni_X8_bound kd_86 rfl lz_86 rfl (Nat.le_trans (by decide) hh) (by decide) (Nat.le_of_ble_eq_true rfl) rfl dX8_write_36 (fun v Z' hq => ?_)
        obtain ⟨r17, M18, rfl, rfl, hq⟩ := hq
        have h := h r17 M18 hq
        dsimp only at h
        refine a_iadd hΓ dX8_write_39 ?_
        refine a_aload_n hΓ 1 dX8_write_40 rfl rfl ?_
        refine n_getI (x := (M18 86 3)) hΓ fl_RX8_19 cl_8 kd_86 lz_86 dX8_write_41 (Or.inl ft_8_3) rfl ?_
        obtain ⟨g19, h⟩ := h
        obtain ⟨g20, h⟩ := h
        refine a_icmp_gt (tgt := 53) hΓ g19 g20 dX8_write_44 (by decide) (fun c21 => ?_) (fun c21 => ?_)
        · rw [if_pos c21] at h
          refine a_aload_n hΓ 1 dX8_write_47 rfl rfl ?_
          refine a_iload_n hΓ 2 dX8_write_48 rfl rfl ?_
          obtain ⟨P22, q23, h⟩ := h
          refine n_callV (c := 86) (av := [aI v1]) (st := []) hΓ (ct_wX8_writeGroups _ _ v1 M18 P22 q23) my_X8_writeGroups ml_RX8_49 ni_X8_writeGroups kd_86 rfl lz_86 rfl (Nat.le_trans (by decide) hh) (by decide) (Nat.le_of_ble_eq_true rfl) rfl dX8_write_49 (fun v Z' hq => ?_)
          obtain ⟨M25, rfl, rfl, hq⟩ := hq
          have h := h M25 hq
          dsimp only at h
          exact a_vret hΓ hr dX8_write_52 ⟨_, rfl, rfl, h⟩
        · rw [if_neg c21] at h
          refine a_iload_n hΓ 2 dX8_write_53 rfl rfl ?_
          refine a_iconst hΓ dX8_write_54 ?_
          refine a_iload hΓ 0 dX8_write_55 rfl ?_
          refine a_ishl hΓ dX8_write_57 ?_
          refine a_iconst hΓ dX8_write_58 ?_
          refine a_ixor hΓ dX8_write_59 ?_
          refine a_iand hΓ dX8_write_60 ?_
          refine a_istore (ls' := [(5, aI (landI v1 (lxorI (shlI 1 r7) (-1)))), (4, aI r7), (0, aR 86), (1, aI v1), (2, aI v2), (3, aI v3)]) hΓ dX8_write_61 (by decide) rfl ?_
          refine a_aload_n hΓ 2 dX8_write_63 rfl rfl ?_
          refine a_bipush hΓ dX8_write_64 (by decide) ?_
          obtain ⟨P26, q27, h⟩ := h
          refine n_callV (c := 86) (av := [aI 40]) (st := []) hΓ (ct_wX8_put _ _ 40 M18 P26 q27) my_X8_put ml_RX8_53 ni_X8_put kd_86 rfl lz_86 rfl (Nat.le_trans (by decide) hh) (by decide) (Nat.le_of_ble_eq_true rfl) rfl dX8_write_66 (fun v Z' hq => ?_)
          obtain ⟨M29, rfl, rfl, hq⟩ := hq
          have h := h M29 hq
          dsimp only at h
          refine a_aload_n hΓ 2 dX8_write_69 rfl rfl ?_
          refine a_iload hΓ 1 dX8_write_70 rfl ?_
          obtain ⟨P30, q31, h⟩ := h
          refine n_callV (c := 86) (av := [aI r7]) (st := []) hΓ (ct_wX8_putNumber _ _ r7 M29 P30 q31) my_X8_putNumber ml_RX8_56 ni_X8_putNumber kd_86 rfl lz_86 rfl (Nat.le_trans (by decide) hh) (by decide) (Nat.le_of_ble_eq_true rfl) rfl dX8_write_72 (fun v Z' hq => ?_)
          obtain ⟨M33, rfl, rfl, hq⟩ := hq
          have h := h M33 hq
          dsimp only at h
          refine a_aload_n hΓ 2 dX8_write_75 rfl rfl ?_
          refine a_iload hΓ 0 dX8_write_76 rfl ?_
          refine a_aload_n hΓ 2 dX8_write_78 rfl rfl ?_
          refine n_getR hΓ fl_RX8_15 cl_8 kd_86 lz_86 dX8_write_79 ft_8_0 rf_86_0 ?_
          refine n_getR hΓ fl_RX8_59 cl_2 kd_83 lz_83 dX8_write_82 ft_2_2 rf_83_2 ?_
          refine a_iload hΓ 1 dX8_write_85 rfl ?_
          obtain ⟨g34, h⟩ := h
          refine n_iald (x := (M33 84 r7)) hΓ dX8_write_87 kd_84 lz_84 g34 rfl ?_
          refine a_iconst hΓ dX8_write_88 ?_
          refine a_ixor hΓ dX8_write_89 ?_
          refine a_iand hΓ dX8_write_90 ?_
          refine a_iload_n hΓ 4 dX8_write_91 rfl rfl ?_
          refine a_aload_n hΓ 2 dX8_write_92 rfl rfl ?_
          refine n_getR hΓ fl_RX8_15 cl_8 kd_86 lz_86 dX8_write_93 ft_8_0 rf_86_0 ?_
          refine n_getR hΓ fl_RX8_62 cl_2 kd_83 lz_83 dX8_write_96 ft_2_1 rf_83_1 ?_
          refine a_iload hΓ 1 dX8_write_99 rfl ?_
          refine n_iald (x := (M33 20 r7)) hΓ dX8_write_101 kd_20 lz_20 g34 rfl ?_
          refine a_iadd hΓ dX8_write_102 ?_
          refine a_iload_n hΓ 5 dX8_write_103 rfl rfl ?_
          refine a_iconst hΓ dX8_write_104 ?_
          refine a_iadd hΓ dX8_write_105 ?_
          obtain ⟨P35, q36, h⟩ := h
          refine n_callV (c := 86) (av := [aI (landI (landI v1 (lxorI (shlI 1 r7) (-1))) (lxorI (M33 84 r7) (-1))), aI (v2 + (M33 20 r7)), aI (v3 + 1)]) (st := []) hΓ (hrc (landI (landI v1 (lxorI (shlI 1 r7) (-1))) (lxorI (M33 84 r7) (-1))) (v2 + (M33 20 r7)) (v3 + 1) M33 P35 q36) my_X8_write ml_RX8_35 ni_X8_write kd_86 rfl lz_86 rfl hh0 (by decide) (Nat.le_of_ble_eq_true rfl) rfl dX8_write_106 (fun v Z' hq => ?_)
          obtain ⟨M38, rfl, rfl, hq⟩ := hq
          have h := h M38 hq
          dsimp only at h
          refine a_aload_n hΓ 2 dX8_write_109 rfl rfl ?_
          refine a_iload hΓ 0 dX8_write_110 rfl ?_
          refine a_iload_n hΓ 4 dX8_write_112 rfl rfl ?_
          refine a_iload_n hΓ 5 dX8_write_113 rfl rfl ?_
          refine a_iconst hΓ dX8_write_114 ?_
          refine a_iadd hΓ dX8_write_115 ?_
          obtain ⟨P39, q40, h⟩ := h
          refine n_callV (c := 86) (av := [aI (landI v1 (lxorI (shlI 1 r7) (-1))), aI v2, aI (v3 + 1)]) (st := []) hΓ (hrc (landI v1 (lxorI (shlI 1 r7) (-1))) v2 (v3 + 1) M38 P39 q40) my_X8_write ml_RX8_35 ni_X8_write kd_86 rfl lz_86 rfl hh0 (by decide) (Nat.le_of_ble_eq_true rfl) rfl dX8_write_116 (fun v Z' hq => ?_)
          obtain ⟨M42, rfl, rfl, hq⟩ := hq
          have h := h M42 hq
          dsimp only at h
          refine a_aload_n hΓ 2 dX8_write_119 rfl rfl ?_
          refine a_bipush hΓ dX8_write_120 (by decide) ?_
          obtain ⟨P43, q44, h⟩ := h
          refine n_callV (c := 86) (av := [aI 41]) (st := []) hΓ (ct_wX8_put _ _ 41 M42 P43 q44) my_X8_put ml_RX8_53 ni_X8_put kd_86 rfl lz_86 rfl (Nat.le_trans (by decide) hh) (by decide) (Nat.le_of_ble_eq_true rfl) rfl dX8_write_122 (fun v Z' hq => ?_)
          obtain ⟨M46, rfl, rfl, hq⟩ := hq
          have h := h M46 hq
          dsimp only at h
          exact a_vret hΓ hr dX8_write_125 ⟨_, rfl, rfl, h⟩
    · rw [if_neg c4] at h
      exact a_vret hΓ hr dX8_write_16 ⟨_, rfl, rfl, h⟩
  · rw [if_neg c2] at h
    exact a_vret hΓ hr dX8_write_16 ⟨_, rfl, rfl, h⟩
theorem ct_wX8_write (l : Launch) (g : Gp) : ∀ (f : Nat) (v1 : Int) (v2 : Int) (v3 : Int) (M : Mm) (Q : Mm → Prop), wX8_write f v1 v2 v3 M Q → Ct l g yX8_write cX8_write 6 none (5 + f) 0 0 [aR 86, aI v1, aI v2, aI v3] (NC, RF, M) (QV Q)
  | 0, _, _, _, _, _, h => absurd h (by unfold wX8_write; exact fun q => q)
  | f + 1, v1, v2, v3, M, Q, h => ct_of (by decide) (Nat.le_of_ble_eq_true rfl) (fun Γ hg hl hr _ hΓ => by subst hg; subst hl; exact s_wX8_write (f := f) hΓ (by omega) hr (h0 := 5 + f) (fun a0 a1 a2 M Q q => ct_wX8_write _ _ f a0 a1 a2 M Q q) (by omega) v1 v2 v3 M h)
def wX8_writeAll (v1 : Int) (M : Mm) (Q : Int → Mm → Prop) : Prop :=
    Bv (wX8_write 30 (M 83 4) 0 0 (up (up (up M 86 3 v1) 86 4 0) 86 5 0)) (fun M4 =>
    (inR (M4 86 4)) ∧
    (if (M4 86 4) ≤ 2000 then
      Bv (wX8_write 30 (M4 83 4) 0 0 (up (up M4 86 4 0) 86 5 1)) (fun M11 =>
      Q (M11 86 4) (up M11 86 2 (M11 86 4)))
    else
      Q (-1) M4))
set_option maxHeartbeats 4000000 in
theorem s_wX8_writeAll {Γ : Cx} {h : Nat} (hΓ : Ok Γ cX8_writeAll RX8 2 h 0 0) (hh : 36 ≤ h) (hr : (cxm Γ).sig.returnType = (some .int)) {Q : Int → Mm → Prop} (v1 : Int) (M : Mm) (h : wX8_writeAll v1 M Q) : Wa Γ 2 (Kf Γ (QI Q) 0 0) 0 0 0 [(0, aR 86), (1, aI v1)] [] (NC, RF, M) := by
  unfold wX8_writeAll at h
  refine a_aload_n hΓ 0 dX8_writeAll_0 rfl rfl ?_
  refine a_iload_n hΓ 1 dX8_writeAll_1 rfl rfl ?_
  refine n_putI (j := 3) hΓ fl_RX8_19 cl_8 nf_8_3 kd_86 lz_86 dX8_writeAll_2 (Or.inl ft_8_3) rfl ?_
  refine a_aload_n hΓ 0 dX8_writeAll_5 rfl rfl ?_
  refine a_iconst hΓ dX8_writeAll_6 ?_
  refine n_putI (j := 4) hΓ fl_RX8_23 cl_8 nf_8_4 kd_86 lz_86 dX8_writeAll_7 (Or.inl ft_8_4) rfl ?_
  refine a_aload_n hΓ 0 dX8_writeAll_10 rfl rfl ?_
  refine a_iconst hΓ dX8_writeAll_11 ?_
  refine n_putI (j := 5) hΓ fl_RX8_26 cl_8 nf_8_5 kd_86 lz_86 dX8_writeAll_12 (Or.inr ⟨ft_8_5, (Or.inl rfl)⟩) rfl ?_
  refine a_aload_n hΓ 0 dX8_writeAll_15 rfl rfl ?_
  refine a_aload_n hΓ 0 dX8_writeAll_16 rfl rfl ?_
  refine n_getR hΓ fl_RX8_15 cl_8 kd_86 lz_86 dX8_writeAll_17 ft_8_0 rf_86_0 ?_
  refine n_getI (x := (M 83 4)) hΓ fl_RX8_30 cl_2 kd_83 lz_83 dX8_writeAll_20 (Or.inl ft_2_4) rfl ?_
  refine a_iconst hΓ dX8_writeAll_23 ?_
  refine a_iconst hΓ dX8_writeAll_24 ?_
  obtain ⟨P1, q2, h⟩ := h
  refine n_callV (c := 86) (av := [aI (M 83 4), aI 0, aI 0]) (st := []) hΓ (ct_wX8_write _ _ 30 (M 83 4) 0 0 (up (up (up M 86 3 v1) 86 4 0) 86 5 0) P1 q2) my_X8_write ml_RX8_35 ni_X8_write kd_86 rfl lz_86 rfl (Nat.le_trans (by decide) hh) (by decide) (Nat.le_of_ble_eq_true rfl) rfl dX8_writeAll_25 (fun v Z' hq => ?_)
  obtain ⟨M4, rfl, rfl, hq⟩ := hq
  have h := h M4 hq
  dsimp only at h
  refine a_aload_n hΓ 0 dX8_writeAll_28 rfl rfl ?_
  refine n_getI (x := (M4 86 4)) hΓ fl_RX8_23 cl_8 kd_86 lz_86 dX8_writeAll_29 (Or.inl ft_8_4) rfl ?_
  refine a_sipush hΓ dX8_writeAll_32 (by decide) ?_
  obtain ⟨g6, h⟩ := h
  refine a_icmp_le (tgt := 40) hΓ g6 (inRl (by decide)) dX8_writeAll_35 (by decide) (fun c7 => ?_) (fun c7 => ?_)
  · rw [if_pos c7] at h
    refine a_aload_n hΓ 0 dX8_writeAll_40 rfl rfl ?_
    refine a_iconst hΓ dX8_writeAll_41 ?_
    refine n_putI (j := 4) hΓ fl_RX8_23 cl_8 nf_8_4 kd_86 lz_86 dX8_writeAll_42 (Or.inl ft_8_4) rfl ?_
    refine a_aload_n hΓ 0 dX8_writeAll_45 rfl rfl ?_
    refine a_iconst hΓ dX8_writeAll_46 ?_
    refine n_putI (j := 5) hΓ fl_RX8_26 cl_8 nf_8_5 kd_86 lz_86 dX8_writeAll_47 (Or.inr ⟨ft_8_5, (Or.inr rfl)⟩) rfl ?_
    refine a_aload_n hΓ 0 dX8_writeAll_50 rfl rfl ?_
    refine a_aload_n hΓ 0 dX8_writeAll_51 rfl rfl ?_
    refine n_getR hΓ fl_RX8_15 cl_8 kd_86 lz_86 dX8_writeAll_52 ft_8_0 rf_86_0 ?_
    refine n_getI (x := (M4 83 4)) hΓ fl_RX8_30 cl_2 kd_83 lz_83 dX8_writeAll_55 (Or.inl ft_2_4) rfl ?_
    refine a_iconst hΓ dX8_writeAll_58 ?_
    refine a_iconst hΓ dX8_writeAll_59 ?_
    obtain ⟨P8, q9, h⟩ := h
    refine n_callV (c := 86) (av := [aI (M4 83 4), aI 0, aI 0]) (st := []) hΓ (ct_wX8_write _ _ 30 (M4 83 4) 0 0 (up (up M4 86 4 0) 86 5 1) P8 q9) my_X8_write ml_RX8_35 ni_X8_write kd_86 rfl lz_86 rfl (Nat.le_trans (by decide) hh) (by decide) (Nat.le_of_ble_eq_true rfl) rfl dX8_writeAll_60 (fun v Z' hq => ?_)
    obtain ⟨M11, rfl, rfl, hq⟩ := hq
    have h := h M11 hq
    dsimp only at h
    refine a_aload_n hΓ 0 dX8_writeAll_63 rfl rfl ?_
    refine a_aload_n hΓ 0 dX8_writeAll_64 rfl rfl ?_
    refine n_getI (x := (M11 86 4)) hΓ fl_RX8_23 cl_8 kd_86 lz_86 dX8_writeAll_65 (Or.inl ft_8_4) rfl ?_
    refine n_putI (j := 2) hΓ fl_RX8_39 cl_8 nf_8_2 kd_86 lz_86 dX8_writeAll_68 (Or.inl ft_8_2) rfl ?_
    refine a_aload_n hΓ 0 dX8_writeAll_71 rfl rfl ?_
    refine n_getI (x := (M11 86 4)) hΓ fl_RX8_39 cl_8 kd_86 lz_86 dX8_writeAll_72 (Or.inl ft_8_2) rfl ?_
    exact a_iret hΓ hr dX8_writeAll_75 ⟨_, _, rfl, rfl, h⟩
  · rw [if_neg c7] at h
    refine a_iconst hΓ dX8_writeAll_38 ?_
    exact a_iret hΓ hr dX8_writeAll_39 ⟨_, _, rfl, rfl, h⟩
theorem ct_wX8_writeAll (l : Launch) (g : Gp) (v1 : Int) (M : Mm) (Q : Int → Mm → Prop) (h : wX8_writeAll v1 M Q) : Ct l g yX8_writeAll cX8_writeAll 2 (some .int) 36 0 0 [aR 86, aI v1] (NC, RF, M) (QI Q) :=
  ct_of (by decide) (Nat.le_of_ble_eq_true rfl) (fun Γ hg hl hr _ hΓ => by subst hg; subst hl; exact s_wX8_writeAll hΓ (by decide) hr v1 M h)
def wX11_prove (v1 : Int) (v2 : Int) (M : Mm) (Q : Int → Mm → Prop) : Prop :=
    Bd (wX11_isShip v1 M) (fun r3 M4 =>
    (inR r3) ∧
    (if r3 = 0 then
      Q (-1) M4
    else
      Bd (wX11_isDay v2 M4) (fun r9 M10 =>
      (inR r9) ∧
      (if r9 = 0 then
        Q (-1) M10
      else
        Bv (wX2_load v1 v2 M10) (fun M16 =>
        Bv (wX1_choose M16) (fun M20 =>
        Bd (wX1_bestWorth M20) (fun r23 M24 =>
        Bd (wX8_writeAll r23 M24) (fun r27 M28 =>
        Q r27 M28))))))))
set_option maxHeartbeats 4000000 in
theorem s_wX11_prove {Γ : Cx} {h : Nat} (hΓ : Ok Γ cX11_prove RX11 3 h 0 0) (hh : 37 ≤ h) (hr : (cxm Γ).sig.returnType = (some .int)) {Q : Int → Mm → Prop} (v1 : Int) (v2 : Int) (M : Mm) (h : wX11_prove v1 v2 M Q) : Wa Γ 3 (Kf Γ (QI Q) 0 0) 0 0 0 [(0, aR 0), (1, aI v1), (2, aI v2)] [] (NC, RF, M) := by
  unfold wX11_prove at h
  refine a_aload_n hΓ 0 dX11_prove_0 rfl rfl ?_
  refine a_iload_n hΓ 1 dX11_prove_1 rfl rfl ?_
  obtain ⟨P1, q2, h⟩ := h
  refine n_callV (c := 0) (av := [aI v1]) (st := []) hΓ (ct_wX11_isShip _ _ v1 M P1 q2) my_X11_isShip ml_RX11_106 ni_X11_isShip kd_0 rfl lz_0 rfl (Nat.le_trans (by decide) hh) (by decide) (Nat.le_of_ble_eq_true rfl) rfl dX11_prove_2 (fun v Z' hq => ?_)
  obtain ⟨r3, M4, rfl, rfl, hq⟩ := hq
  have h := h r3 M4 hq
  dsimp only at h
  obtain ⟨g5, h⟩ := h
  refine a_if_eq (tgt := 15) hΓ g5 dX11_prove_5 (by decide) (fun c6 => ?_) (fun c6 => ?_)
  · rw [if_pos c6] at h
    refine a_iconst hΓ dX11_prove_15 ?_
    exact a_iret hΓ hr dX11_prove_16 ⟨_, _, rfl, rfl, h⟩
  · rw [if_neg c6] at h
    refine a_iload_n hΓ 2 dX11_prove_8 rfl rfl ?_
    obtain ⟨P7, q8, h⟩ := h
    refine n_callS (av := [aI v2]) (st := []) hΓ (ct_wX11_isDay _ _ v2 M4 P7 q8) my_X11_isDay ml_RX11_102 rfl (Nat.le_trans (by decide) hh) (by decide) (Nat.le_of_ble_eq_true rfl) rfl dX11_prove_9 (fun v Z' hq => ?_)
    obtain ⟨r9, M10, rfl, rfl, hq⟩ := hq
    have h := h r9 M10 hq
    dsimp only at h
    obtain ⟨g11, h⟩ := h
    refine a_if_ne (tgt := 17) hΓ g11 dX11_prove_12 (by decide) (fun c12 => ?_) (fun c12 => ?_)
    · rw [if_pos c12] at h
      refine a_iconst hΓ dX11_prove_15 ?_
      exact a_iret hΓ hr dX11_prove_16 ⟨_, _, rfl, rfl, h⟩
    · rw [if_neg c12] at h
      refine a_aload_n hΓ 0 dX11_prove_17 rfl rfl ?_
      refine n_getR hΓ fl_RX11_38 cl_11 kd_0 lz_0 dX11_prove_18 ft_11_4 rf_0_4 ?_
      refine a_iload_n hΓ 1 dX11_prove_21 rfl rfl ?_
      refine a_iload_n hΓ 2 dX11_prove_22 rfl rfl ?_
      obtain ⟨P13, q14, h⟩ := h
      refine n_callV (c := 83) (av := [aI v1, aI v2]) (st := []) hΓ (ct_wX2_load _ _ v1 v2 M10 P13 q14) my_X2_load ml_RX11_220 ni_X2_load kd_83 rfl lz_83 rfl (Nat.le_trans (by decide) hh) (by decide) (Nat.le_of_ble_eq_true rfl) rfl dX11_prove_23 (fun v Z' hq => ?_)
      obtain ⟨M16, rfl, rfl, hq⟩ := hq
      have h := h M16 hq
      dsimp only at h
      refine a_aload_n hΓ 0 dX11_prove_26 rfl rfl ?_
      refine n_getR hΓ fl_RX11_47 cl_11 kd_0 lz_0 dX11_prove_27 ft_11_5 rf_0_5 ?_
      obtain ⟨P17, q18, h⟩ := h
      refine n_callV (c := 85) (av := []) (st := []) hΓ (ct_wX1_choose _ _  M16 P17 q18) my_X1_choose ml_RX11_236 ni_X1_choose kd_85 rfl lz_85 rfl (Nat.le_trans (by decide) hh) (by decide) (Nat.le_of_ble_eq_true rfl) rfl dX11_prove_30 (fun v Z' hq => ?_)
      obtain ⟨M20, rfl, rfl, hq⟩ := hq
      have h := h M20 hq
      dsimp only at h
      refine a_aload_n hΓ 0 dX11_prove_33 rfl rfl ?_
      refine n_getR hΓ fl_RX11_54 cl_11 kd_0 lz_0 dX11_prove_34 ft_11_6 rf_0_6 ?_
      refine a_aload_n hΓ 0 dX11_prove_37 rfl rfl ?_
      refine n_getR hΓ fl_RX11_47 cl_11 kd_0 lz_0 dX11_prove_38 ft_11_5 rf_0_5 ?_
      obtain ⟨P21, q22, h⟩ := h
      refine n_callV (c := 85) (av := []) (st := [aR 86]) hΓ (ct_wX1_bestWorth _ _  M20 P21 q22) my_X1_bestWorth ml_RX11_249 ni_X1_bestWorth kd_85 rfl lz_85 rfl (Nat.le_trans (by decide) hh) (by decide) (Nat.le_of_ble_eq_true rfl) rfl dX11_prove_41 (fun v Z' hq => ?_)
      obtain ⟨r23, M24, rfl, rfl, hq⟩ := hq
      have h := h r23 M24 hq
      dsimp only at h
      obtain ⟨P25, q26, h⟩ := h
      refine n_callV (c := 86) (av := [aI r23]) (st := []) hΓ (ct_wX8_writeAll _ _ r23 M24 P25 q26) my_X8_writeAll ml_RX11_252 ni_X8_writeAll kd_86 rfl lz_86 rfl (Nat.le_trans (by decide) hh) (by decide) (Nat.le_of_ble_eq_true rfl) rfl dX11_prove_44 (fun v Z' hq => ?_)
      obtain ⟨r27, M28, rfl, rfl, hq⟩ := hq
      have h := h r27 M28 hq
      dsimp only at h
      exact a_iret hΓ hr dX11_prove_47 ⟨_, _, rfl, rfl, h⟩
theorem ct_wX11_prove (l : Launch) (g : Gp) (v1 : Int) (v2 : Int) (M : Mm) (Q : Int → Mm → Prop) (h : wX11_prove v1 v2 M Q) : Ct l g yX11_prove cX11_prove 3 (some .int) 37 0 0 [aR 0, aI v1, aI v2] (NC, RF, M) (QI Q) :=
  ct_of (by decide) (Nat.le_of_ble_eq_true rfl) (fun Γ hg hl hr _ hΓ => by subst hg; subst hl; exact s_wX11_prove hΓ (by decide) hr v1 v2 M h)
def wX11_proof (v1 : Int) (M : Mm) (Q : Int → Mm → Prop) : Prop :=
    Bd (wX11_within v1 0 ((M 86 2) - 1) M) (fun r3 M4 =>
    (inR r3) ∧
    (if r3 = 0 then
      Q (-1) M4
    else
      (0 ≤ v1 ∧ v1 < 2000) ∧
      Q (M4 87 v1) M4))
set_option maxHeartbeats 4000000 in
theorem s_wX11_proof {Γ : Cx} {h : Nat} (hΓ : Ok Γ cX11_proof RX11 2 h 0 0) (hh : 2 ≤ h) (hr : (cxm Γ).sig.returnType = (some .int)) {Q : Int → Mm → Prop} (v1 : Int) (M : Mm) (h : wX11_proof v1 M Q) : Wa Γ 2 (Kf Γ (QI Q) 0 0) 0 0 0 [(0, aR 0), (1, aI v1)] [] (NC, RF, M) := by
  unfold wX11_proof at h
  refine a_iload_n hΓ 1 dX11_proof_0 rfl rfl ?_
  refine a_iconst hΓ dX11_proof_1 ?_
  refine a_aload_n hΓ 0 dX11_proof_2 rfl rfl ?_
  refine n_getR hΓ fl_RX11_54 cl_11 kd_0 lz_0 dX11_proof_3 ft_11_6 rf_0_6 ?_
  refine n_getI (x := (M 86 2)) hΓ fl_RX11_255 cl_8 kd_86 lz_86 dX11_proof_6 (Or.inl ft_8_2) rfl ?_
  refine a_iconst hΓ dX11_proof_9 ?_
  refine a_isub hΓ dX11_proof_10 ?_
  obtain ⟨P1, q2, h⟩ := h
  refine n_callS (av := [aI v1, aI 0, aI ((M 86 2) - 1)]) (st := []) hΓ (ct_wX11_within _ _ v1 0 ((M 86 2) - 1) M P1 q2) my_X11_within ml_RX11_79 rfl (Nat.le_trans (by decide) hh) (by decide) (Nat.le_of_ble_eq_true rfl) rfl dX11_proof_11 (fun v Z' hq => ?_)
  obtain ⟨r3, M4, rfl, rfl, hq⟩ := hq
  have h := h r3 M4 hq
  dsimp only at h
  obtain ⟨g5, h⟩ := h
  refine a_if_eq (tgt := 29) hΓ g5 dX11_proof_14 (by decide) (fun c6 => ?_) (fun c6 => ?_)
  · rw [if_pos c6] at h
    refine a_iconst hΓ dX11_proof_29 ?_
    exact a_iret hΓ hr dX11_proof_30 ⟨_, _, rfl, rfl, h⟩
  · rw [if_neg c6] at h
    refine a_aload_n hΓ 0 dX11_proof_17 rfl rfl ?_
    refine n_getR hΓ fl_RX11_54 cl_11 kd_0 lz_0 dX11_proof_18 ft_11_6 rf_0_6 ?_
    refine n_getR hΓ fl_RX11_258 cl_8 kd_86 lz_86 dX11_proof_21 ft_8_1 rf_86_1 ?_
    refine a_iload_n hΓ 1 dX11_proof_24 rfl rfl ?_
    obtain ⟨g7, h⟩ := h
    refine n_iald (x := (M4 87 v1)) hΓ dX11_proof_25 kd_87 lz_87 g7 rfl ?_
    refine a_goto (tgt := 30) hΓ dX11_proof_26 (by decide) ?_
    exact a_iret hΓ hr dX11_proof_30 ⟨_, _, rfl, rfl, h⟩
theorem ct_wX11_proof (l : Launch) (g : Gp) (v1 : Int) (M : Mm) (Q : Int → Mm → Prop) (h : wX11_proof v1 M Q) : Ct l g yX11_proof cX11_proof 2 (some .int) 2 0 0 [aR 0, aI v1] (NC, RF, M) (QI Q) :=
  ct_of (by decide) (Nat.le_of_ble_eq_true rfl) (fun Γ hg hl hr _ hΓ => by subst hg; subst hl; exact s_wX11_proof hΓ (by decide) hr v1 M h)
def wX10_hasRoom (v1 : Int) (M : Mm) (Q : Int → Mm → Prop) : Prop :=
    (inR ((M 88 2) + (4 * v1))) ∧
    (if ((M 88 2) + (4 * v1)) ≤ 400 then
      Q 1 M
    else
      Q 0 M)
set_option maxHeartbeats 4000000 in
theorem s_wX10_hasRoom {Γ : Cx} {h : Nat} (hΓ : Ok Γ cX10_hasRoom RX10 2 h 0 0) (hh : 1 ≤ h) (hr : (cxm Γ).sig.returnType = (some .boolean)) {Q : Int → Mm → Prop} (v1 : Int) (M : Mm) (h : wX10_hasRoom v1 M Q) : Wa Γ 2 (Kf Γ (QI Q) 0 0) 0 0 0 [(0, aR 88), (1, aI v1)] [] (NC, RF, M) := by
  unfold wX10_hasRoom at h
  refine a_aload_n hΓ 0 dX10_hasRoom_0 rfl rfl ?_
  refine n_getI (x := (M 88 2)) hΓ fl_RX10_23 cl_10 kd_88 lz_88 dX10_hasRoom_1 (Or.inl ft_10_2) rfl ?_
  refine a_iconst hΓ dX10_hasRoom_4 ?_
  refine a_iload_n hΓ 1 dX10_hasRoom_5 rfl rfl ?_
  refine a_imul hΓ dX10_hasRoom_6 ?_
  refine a_iadd hΓ dX10_hasRoom_7 ?_
  refine a_sipush hΓ dX10_hasRoom_8 (by decide) ?_
  obtain ⟨g1, h⟩ := h
  refine a_icmp_gt (tgt := 18) hΓ g1 (inRl (by decide)) dX10_hasRoom_11 (by decide) (fun c2 => ?_) (fun c2 => ?_)
  · rw [if_pos c2] at h
    refine a_iconst hΓ dX10_hasRoom_14 ?_
    refine a_goto (tgt := 19) hΓ dX10_hasRoom_15 (by decide) ?_
    exact a_zret hΓ hr (Or.inr rfl) dX10_hasRoom_19 ⟨_, _, rfl, rfl, h⟩
  · rw [if_neg c2] at h
    refine a_iconst hΓ dX10_hasRoom_18 ?_
    exact a_zret hΓ hr (Or.inl rfl) dX10_hasRoom_19 ⟨_, _, rfl, rfl, h⟩
theorem ct_wX10_hasRoom (l : Launch) (g : Gp) (v1 : Int) (M : Mm) (Q : Int → Mm → Prop) (h : wX10_hasRoom v1 M Q) : Ct l g yX10_hasRoom cX10_hasRoom 2 (some .boolean) 1 0 0 [aR 88, aI v1] (NC, RF, M) (QI Q) :=
  ct_of (by decide) (Nat.le_of_ble_eq_true rfl) (fun Γ hg hl hr _ hΓ => by subst hg; subst hl; exact s_wX10_hasRoom hΓ (by decide) hr v1 M h)
def wX10_append_3 (Q : Mm → Prop) (v1 : Int) : Nat → Int → Mm → Prop
  | 0, _, _ => False
  | f + 1, v2, M => (inR v2) ∧
    (if v2 < 0 then
      Q M
    else
      (inR (M 88 2)) ∧
      (if (M 88 2) < 400 then
        (0 ≤ (M 88 2) ∧ (M 88 2) < 400) ∧
        (wX10_append_3 Q v1 f) (v2 + (-8)) (up (up M 89 (M 88 2) (landI (shrI v1 v2) 255)) 88 2 ((M 88 2) + 1))
      else
        Q M))
set_option maxHeartbeats 4000000 in
theorem s_wX10_append_3 {Γ : Cx} {h : Nat} (hΓ : Ok Γ cX10_append RX10 3 h 0 0) (hh : 1 ≤ h) (hr : (cxm Γ).sig.returnType = none) {Q : Mm → Prop} {v1 : Int}   : ∀ (f : Nat) (v2 : Int) (M : Mm), wX10_append_3 Q v1 f v2 M → Wa Γ 3 (Kf Γ (QV Q) 0 0) 0 0 3 [(0, aR 88), (1, aI v1), (2, aI v2)] [] (NC, RF, M) := by
  intro f
  induction f with
  | zero => intro v2 M h; exact h.elim
  | succ f ih =>
    intro v2 M h
    unfold wX10_append_3 at h
    refine a_iload_n hΓ 2 dX10_append_3 rfl rfl ?_
    obtain ⟨g1, h⟩ := h
    refine a_if_lt (tgt := 49) hΓ g1 dX10_append_4 (by decide) (fun c2 => ?_) (fun c2 => ?_)
    · rw [if_pos c2] at h
      exact a_vret hΓ hr dX10_append_49 ⟨_, rfl, rfl, h⟩
    · rw [if_neg c2] at h
      refine a_aload_n hΓ 0 dX10_append_7 rfl rfl ?_
      refine n_getI (x := (M 88 2)) hΓ fl_RX10_23 cl_10 kd_88 lz_88 dX10_append_8 (Or.inl ft_10_2) rfl ?_
      refine a_sipush hΓ dX10_append_11 (by decide) ?_
      obtain ⟨g3, h⟩ := h
      refine a_icmp_ge (tgt := 49) hΓ g3 (inRl (by decide)) dX10_append_14 (by decide) (fun c4 => ?_) (fun c4 => ?_)
      · rw [if_pos c4] at h
        refine a_aload_n hΓ 0 dX10_append_17 rfl rfl ?_
        refine n_getR hΓ fl_RX10_11 cl_10 kd_88 lz_88 dX10_append_18 ft_10_1 rf_88_1 ?_
        refine a_aload_n hΓ 0 dX10_append_21 rfl rfl ?_
        refine n_getI (x := (M 88 2)) hΓ fl_RX10_23 cl_10 kd_88 lz_88 dX10_append_22 (Or.inl ft_10_2) rfl ?_
        refine a_iload_n hΓ 1 dX10_append_25 rfl rfl ?_
        refine a_iload_n hΓ 2 dX10_append_26 rfl rfl ?_
        refine a_ishr hΓ dX10_append_27 ?_
        refine a_sipush hΓ dX10_append_28 (by decide) ?_
        refine a_iand hΓ dX10_append_31 ?_
        obtain ⟨g5, h⟩ := h
        refine a_iast hΓ dX10_append_32 kd_89 lz_89 g5 ?_
        refine a_aload_n hΓ 0 dX10_append_33 rfl rfl ?_
        refine a_dupR hΓ dX10_append_34 ?_
        refine n_getI (x := (M 88 2)) hΓ fl_RX10_23 cl_10 kd_88 lz_88 dX10_append_35 (Or.inl ft_10_2) rfl ?_
        refine a_iconst hΓ dX10_append_38 ?_
        refine a_iadd hΓ dX10_append_39 ?_
        refine n_putI (j := 2) hΓ fl_RX10_23 cl_10 nf_10_2 kd_88 lz_88 dX10_append_40 (Or.inl ft_10_2) rfl ?_
        refine a_iinc (ls' := [(2, aI (v2 + (-8))), (0, aR 88), (1, aI v1)]) hΓ 2 dX10_append_43 rfl (by decide) rfl ?_
        refine a_goto (tgt := 3) hΓ dX10_append_46 (by decide) ?_
        refine a_sub (ls' := [(0, aR 88), (1, aI v1), (2, aI (v2 + (-8)))]) [1, 2, 0] rfl ?_
        exact ih (v2 + (-8)) (up (up M 89 (M 88 2) (landI (shrI v1 v2) 255)) 88 2 ((M 88 2) + 1)) h
      · rw [if_neg c4] at h
        exact a_vret hΓ hr dX10_append_49 ⟨_, rfl, rfl, h⟩
def wX10_append (v1 : Int) (M : Mm) (Q : Mm → Prop) : Prop :=
    ∃ n, wX10_append_3 Q v1 n 24 M
set_option maxHeartbeats 4000000 in
theorem s_wX10_append {Γ : Cx} {h : Nat} (hΓ : Ok Γ cX10_append RX10 3 h 0 0) (hh : 1 ≤ h) (hr : (cxm Γ).sig.returnType = none) {Q : Mm → Prop} (v1 : Int) (M : Mm) (h : wX10_append v1 M Q) : Wa Γ 3 (Kf Γ (QV Q) 0 0) 0 0 0 [(0, aR 88), (1, aI v1)] [] (NC, RF, M) := by
  unfold wX10_append at h
  refine a_bipush hΓ dX10_append_0 (by decide) ?_
  refine a_istore_n (ls' := [(2, aI 24), (0, aR 88), (1, aI v1)]) hΓ dX10_append_2 rfl (by decide) rfl ?_
  refine a_sub (ls' := [(0, aR 88), (1, aI v1), (2, aI 24)]) [1, 2, 0] rfl ?_
  obtain ⟨f1, h⟩ := h
  exact s_wX10_append_3 hΓ (Nat.le_trans (by decide) hh) hr  f1 24 M h
theorem ct_wX10_append (l : Launch) (g : Gp) (v1 : Int) (M : Mm) (Q : Mm → Prop) (h : wX10_append v1 M Q) : Ct l g yX10_append cX10_append 3 none 1 0 0 [aR 88, aI v1] (NC, RF, M) (QV Q) :=
  ct_of (by decide) (Nat.le_of_ble_eq_true rfl) (fun Γ hg hl hr _ hΓ => by subst hg; subst hl; exact s_wX10_append hΓ (by decide) hr v1 M h)
def wX11_feed (v1 : Int) (v2 : Int) (v3 : Int) (v4 : Int) (v5 : Int) (M : Mm) (Q : Int → Mm → Prop) : Prop :=
    Bd (wX10_hasRoom 5 M) (fun r3 M4 =>
    (inR r3) ∧
    (if r3 = 0 then
      Q (-1) M4
    else
      Bv (wX10_append v1 M4) (fun M10 =>
      Bv (wX10_append v2 M10) (fun M14 =>
      Bv (wX10_append v3 M14) (fun M18 =>
      Bv (wX10_append v4 M18) (fun M22 =>
      Bv (wX10_append v5 M22) (fun M26 =>
      Q (M26 88 2) M26)))))))
set_option maxHeartbeats 4000000 in
theorem s_wX11_feed {Γ : Cx} {h : Nat} (hΓ : Ok Γ cX11_feed RX11 6 h 0 0) (hh : 2 ≤ h) (hr : (cxm Γ).sig.returnType = (some .int)) {Q : Int → Mm → Prop} (v1 : Int) (v2 : Int) (v3 : Int) (v4 : Int) (v5 : Int) (M : Mm) (h : wX11_feed v1 v2 v3 v4 v5 M Q) : Wa Γ 6 (Kf Γ (QI Q) 0 0) 0 0 0 [(0, aR 0), (1, aI v1), (2, aI v2), (3, aI v3), (4, aI v4), (5, aI v5)] [] (NC, RF, M) := by
  unfold wX11_feed at h
  refine a_aload_n hΓ 0 dX11_feed_0 rfl rfl ?_
  refine n_getR hΓ fl_RX11_61 cl_11 kd_0 lz_0 dX11_feed_1 ft_11_7 rf_0_7 ?_
  refine a_iconst hΓ dX11_feed_4 ?_
  obtain ⟨P1, q2, h⟩ := h
  refine n_callV (c := 88) (av := [aI 5]) (st := []) hΓ (ct_wX10_hasRoom _ _ 5 M P1 q2) my_X10_hasRoom ml_RX11_261 ni_X10_hasRoom kd_88 rfl lz_88 rfl (Nat.le_trans (by decide) hh) (by decide) (Nat.le_of_ble_eq_true rfl) rfl dX11_feed_5 (fun v Z' hq => ?_)
  obtain ⟨r3, M4, rfl, rfl, hq⟩ := hq
  have h := h r3 M4 hq
  dsimp only at h
  obtain ⟨g5, h⟩ := h
  refine a_if_ne (tgt := 13) hΓ g5 dX11_feed_8 (by decide) (fun c6 => ?_) (fun c6 => ?_)
  · rw [if_pos c6] at h
    refine a_iconst hΓ dX11_feed_11 ?_
    exact a_iret hΓ hr dX11_feed_12 ⟨_, _, rfl, rfl, h⟩
  · rw [if_neg c6] at h
    refine a_aload_n hΓ 0 dX11_feed_13 rfl rfl ?_
    refine n_getR hΓ fl_RX11_61 cl_11 kd_0 lz_0 dX11_feed_14 ft_11_7 rf_0_7 ?_
    refine a_iload_n hΓ 1 dX11_feed_17 rfl rfl ?_
    obtain ⟨P7, q8, h⟩ := h
    refine n_callV (c := 88) (av := [aI v1]) (st := []) hΓ (ct_wX10_append _ _ v1 M4 P7 q8) my_X10_append ml_RX11_264 ni_X10_append kd_88 rfl lz_88 rfl (Nat.le_trans (by decide) hh) (by decide) (Nat.le_of_ble_eq_true rfl) rfl dX11_feed_18 (fun v Z' hq => ?_)
    obtain ⟨M10, rfl, rfl, hq⟩ := hq
    have h := h M10 hq
    dsimp only at h
    refine a_aload_n hΓ 0 dX11_feed_21 rfl rfl ?_
    refine n_getR hΓ fl_RX11_61 cl_11 kd_0 lz_0 dX11_feed_22 ft_11_7 rf_0_7 ?_
    refine a_iload_n hΓ 2 dX11_feed_25 rfl rfl ?_
    obtain ⟨P11, q12, h⟩ := h
    refine n_callV (c := 88) (av := [aI v2]) (st := []) hΓ (ct_wX10_append _ _ v2 M10 P11 q12) my_X10_append ml_RX11_264 ni_X10_append kd_88 rfl lz_88 rfl (Nat.le_trans (by decide) hh) (by decide) (Nat.le_of_ble_eq_true rfl) rfl dX11_feed_26 (fun v Z' hq => ?_)
    obtain ⟨M14, rfl, rfl, hq⟩ := hq
    have h := h M14 hq
    dsimp only at h
    refine a_aload_n hΓ 0 dX11_feed_29 rfl rfl ?_
    refine n_getR hΓ fl_RX11_61 cl_11 kd_0 lz_0 dX11_feed_30 ft_11_7 rf_0_7 ?_
    refine a_iload_n hΓ 3 dX11_feed_33 rfl rfl ?_
    obtain ⟨P15, q16, h⟩ := h
    refine n_callV (c := 88) (av := [aI v3]) (st := []) hΓ (ct_wX10_append _ _ v3 M14 P15 q16) my_X10_append ml_RX11_264 ni_X10_append kd_88 rfl lz_88 rfl (Nat.le_trans (by decide) hh) (by decide) (Nat.le_of_ble_eq_true rfl) rfl dX11_feed_34 (fun v Z' hq => ?_)
    obtain ⟨M18, rfl, rfl, hq⟩ := hq
    have h := h M18 hq
    dsimp only at h
    refine a_aload_n hΓ 0 dX11_feed_37 rfl rfl ?_
    refine n_getR hΓ fl_RX11_61 cl_11 kd_0 lz_0 dX11_feed_38 ft_11_7 rf_0_7 ?_
    refine a_iload hΓ 4 dX11_feed_41 rfl ?_
    obtain ⟨P19, q20, h⟩ := h
    refine n_callV (c := 88) (av := [aI v4]) (st := []) hΓ (ct_wX10_append _ _ v4 M18 P19 q20) my_X10_append ml_RX11_264 ni_X10_append kd_88 rfl lz_88 rfl (Nat.le_trans (by decide) hh) (by decide) (Nat.le_of_ble_eq_true rfl) rfl dX11_feed_43 (fun v Z' hq => ?_)
    obtain ⟨M22, rfl, rfl, hq⟩ := hq
    have h := h M22 hq
    dsimp only at h
    refine a_aload_n hΓ 0 dX11_feed_46 rfl rfl ?_
    refine n_getR hΓ fl_RX11_61 cl_11 kd_0 lz_0 dX11_feed_47 ft_11_7 rf_0_7 ?_
    refine a_iload hΓ 5 dX11_feed_50 rfl ?_
    obtain ⟨P23, q24, h⟩ := h
    refine n_callV (c := 88) (av := [aI v5]) (st := []) hΓ (ct_wX10_append _ _ v5 M22 P23 q24) my_X10_append ml_RX11_264 ni_X10_append kd_88 rfl lz_88 rfl (Nat.le_trans (by decide) hh) (by decide) (Nat.le_of_ble_eq_true rfl) rfl dX11_feed_52 (fun v Z' hq => ?_)
    obtain ⟨M26, rfl, rfl, hq⟩ := hq
    have h := h M26 hq
    dsimp only at h
    refine a_aload_n hΓ 0 dX11_feed_55 rfl rfl ?_
    refine n_getR hΓ fl_RX11_61 cl_11 kd_0 lz_0 dX11_feed_56 ft_11_7 rf_0_7 ?_
    refine n_getI (x := (M26 88 2)) hΓ fl_RX11_266 cl_10 kd_88 lz_88 dX11_feed_59 (Or.inl ft_10_2) rfl ?_
    exact a_iret hΓ hr dX11_feed_62 ⟨_, _, rfl, rfl, h⟩
theorem ct_wX11_feed (l : Launch) (g : Gp) (v1 : Int) (v2 : Int) (v3 : Int) (v4 : Int) (v5 : Int) (M : Mm) (Q : Int → Mm → Prop) (h : wX11_feed v1 v2 v3 v4 v5 M Q) : Ct l g yX11_feed cX11_feed 6 (some .int) 2 0 0 [aR 0, aI v1, aI v2, aI v3, aI v4, aI v5] (NC, RF, M) (QI Q) :=
  ct_of (by decide) (Nat.le_of_ble_eq_true rfl) (fun Γ hg hl hr _ hΓ => by subst hg; subst hl; exact s_wX11_feed hΓ (by decide) hr v1 v2 v3 v4 v5 M h)
def wX11_end (v1 : Int) (M : Mm) (Q : Int → Mm → Prop) : Prop :=
    Bd (wX11_within v1 0 (M 88 2) M) (fun r3 M4 =>
    (inR r3) ∧
    (if r3 = 0 then
      Q (-1) M4
    else
      Q v1 (up M4 88 2 v1)))
set_option maxHeartbeats 4000000 in
theorem s_wX11_end {Γ : Cx} {h : Nat} (hΓ : Ok Γ cX11_end RX11 2 h 0 0) (hh : 2 ≤ h) (hr : (cxm Γ).sig.returnType = (some .int)) {Q : Int → Mm → Prop} (v1 : Int) (M : Mm) (h : wX11_end v1 M Q) : Wa Γ 2 (Kf Γ (QI Q) 0 0) 0 0 0 [(0, aR 0), (1, aI v1)] [] (NC, RF, M) := by
  unfold wX11_end at h
  refine a_iload_n hΓ 1 dX11_end_0 rfl rfl ?_
  refine a_iconst hΓ dX11_end_1 ?_
  refine a_aload_n hΓ 0 dX11_end_2 rfl rfl ?_
  refine n_getR hΓ fl_RX11_61 cl_11 kd_0 lz_0 dX11_end_3 ft_11_7 rf_0_7 ?_
  refine n_getI (x := (M 88 2)) hΓ fl_RX11_266 cl_10 kd_88 lz_88 dX11_end_6 (Or.inl ft_10_2) rfl ?_
  obtain ⟨P1, q2, h⟩ := h
  refine n_callS (av := [aI v1, aI 0, aI (M 88 2)]) (st := []) hΓ (ct_wX11_within _ _ v1 0 (M 88 2) M P1 q2) my_X11_within ml_RX11_79 rfl (Nat.le_trans (by decide) hh) (by decide) (Nat.le_of_ble_eq_true rfl) rfl dX11_end_9 (fun v Z' hq => ?_)
  obtain ⟨r3, M4, rfl, rfl, hq⟩ := hq
  have h := h r3 M4 hq
  dsimp only at h
  obtain ⟨g5, h⟩ := h
  refine a_if_ne (tgt := 17) hΓ g5 dX11_end_12 (by decide) (fun c6 => ?_) (fun c6 => ?_)
  · rw [if_pos c6] at h
    refine a_iconst hΓ dX11_end_15 ?_
    exact a_iret hΓ hr dX11_end_16 ⟨_, _, rfl, rfl, h⟩
  · rw [if_neg c6] at h
    refine a_aload_n hΓ 0 dX11_end_17 rfl rfl ?_
    refine n_getR hΓ fl_RX11_61 cl_11 kd_0 lz_0 dX11_end_18 ft_11_7 rf_0_7 ?_
    refine a_iload_n hΓ 1 dX11_end_21 rfl rfl ?_
    refine n_putI (j := 2) hΓ fl_RX11_266 cl_10 nf_10_2 kd_88 lz_88 dX11_end_22 (Or.inl ft_10_2) rfl ?_
    refine a_iload_n hΓ 1 dX11_end_25 rfl rfl ?_
    exact a_iret hΓ hr dX11_end_26 ⟨_, _, rfl, rfl, h⟩
theorem ct_wX11_end (l : Launch) (g : Gp) (v1 : Int) (M : Mm) (Q : Int → Mm → Prop) (h : wX11_end v1 M Q) : Ct l g yX11_end cX11_end 2 (some .int) 2 0 0 [aR 0, aI v1] (NC, RF, M) (QI Q) :=
  ct_of (by decide) (Nat.le_of_ble_eq_true rfl) (fun Γ hg hl hr _ hΓ => by subst hg; subst hl; exact s_wX11_end hΓ (by decide) hr v1 M h)
def wX10_isDigit (v0 : Int) (M : Mm) (Q : Int → Mm → Prop) : Prop :=
    (inR v0) ∧
    (if v0 < 48 then
      Q 0 M
    else
      (if v0 ≤ 57 then
        Q 1 M
      else
        Q 0 M))
set_option maxHeartbeats 4000000 in
theorem s_wX10_isDigit {Γ : Cx} {h : Nat} (hΓ : Ok Γ cX10_isDigit RX10 1 h 0 0) (hh : 1 ≤ h) (hr : (cxm Γ).sig.returnType = (some .boolean)) {Q : Int → Mm → Prop} (v0 : Int) (M : Mm) (h : wX10_isDigit v0 M Q) : Wa Γ 1 (Kf Γ (QI Q) 0 0) 0 0 0 [(0, aI v0)] [] (NC, RF, M) := by
  unfold wX10_isDigit at h
  refine a_iload_n hΓ 0 dX10_isDigit_0 rfl rfl ?_
  refine a_bipush hΓ dX10_isDigit_1 (by decide) ?_
  obtain ⟨g1, h⟩ := h
  refine a_icmp_lt (tgt := 16) hΓ g1 (inRl (by decide)) dX10_isDigit_3 (by decide) (fun c2 => ?_) (fun c2 => ?_)
  · rw [if_pos c2] at h
    refine a_iconst hΓ dX10_isDigit_16 ?_
    exact a_zret hΓ hr (Or.inl rfl) dX10_isDigit_17 ⟨_, _, rfl, rfl, h⟩
  · rw [if_neg c2] at h
    refine a_iload_n hΓ 0 dX10_isDigit_6 rfl rfl ?_
    refine a_bipush hΓ dX10_isDigit_7 (by decide) ?_
    refine a_icmp_gt (tgt := 16) hΓ g1 (inRl (by decide)) dX10_isDigit_9 (by decide) (fun c3 => ?_) (fun c3 => ?_)
    · rw [if_pos c3] at h
      refine a_iconst hΓ dX10_isDigit_12 ?_
      refine a_goto (tgt := 17) hΓ dX10_isDigit_13 (by decide) ?_
      exact a_zret hΓ hr (Or.inr rfl) dX10_isDigit_17 ⟨_, _, rfl, rfl, h⟩
    · rw [if_neg c3] at h
      refine a_iconst hΓ dX10_isDigit_16 ?_
      exact a_zret hΓ hr (Or.inl rfl) dX10_isDigit_17 ⟨_, _, rfl, rfl, h⟩
theorem ct_wX10_isDigit (l : Launch) (g : Gp) (v0 : Int) (M : Mm) (Q : Int → Mm → Prop) (h : wX10_isDigit v0 M Q) : Ct l g yX10_isDigit cX10_isDigit 1 (some .boolean) 1 0 0 [aI v0] (NC, RF, M) (QI Q) :=
  ct_of (by decide) (Nat.le_of_ble_eq_true rfl) (fun Γ hg hl hr _ hΓ => by subst hg; subst hl; exact s_wX10_isDigit hΓ (by decide) hr v0 M h)
def wX10_readNumber_5 (Q : Mm → Prop) : Nat → Mm → Prop
  | 0, _ => False
  | f + 1, M => (inR (M 88 5)) ∧
    (inR (M 88 2)) ∧
    (if (M 88 5) < (M 88 2) then
      (0 ≤ (M 88 5) ∧ (M 88 5) < 400) ∧
      Bd (wX10_isDigit (M 89 (M 88 5)) M) (fun r7 M8 =>
      (inR r7) ∧
      (if r7 = 0 then
        Q M8
      else
        (0 ≤ (M8 88 5) ∧ (M8 88 5) < 400) ∧
        Bd (wJ9_min_7cf53 ((((M8 88 8) * 10) + (M8 89 (M8 88 5))) - 48) 24 M8) (fun r14 M15 =>
        (wX10_readNumber_5 Q f) (up (up M15 88 8 r14) 88 5 ((M15 88 5) + 1)))))
    else
      Q M)
set_option maxHeartbeats 4000000 in
theorem s_wX10_readNumber_5 {Γ : Cx} {h : Nat} (hΓ : Ok Γ cX10_readNumber RX10 1 h 0 0) (hh : 2 ≤ h) (hr : (cxm Γ).sig.returnType = none) {Q : Mm → Prop}   : ∀ (f : Nat) (M : Mm), wX10_readNumber_5 Q  f M → Wa Γ 1 (Kf Γ (QV Q) 0 0) 0 0 5 [(0, aR 88)] [] (NC, RF, M) := by
  intro f
  induction f with
  | zero => intro M h; exact h.elim
  | succ f ih =>
    intro M h
    unfold wX10_readNumber_5 at h
    refine a_aload_n hΓ 0 dX10_readNumber_5 rfl rfl ?_
    refine n_getI (x := (M 88 5)) hΓ fl_RX10_29 cl_10 kd_88 lz_88 dX10_readNumber_6 (Or.inl ft_10_5) rfl ?_
    refine a_aload_n hΓ 0 dX10_readNumber_9 rfl rfl ?_
    refine n_getI (x := (M 88 2)) hΓ fl_RX10_23 cl_10 kd_88 lz_88 dX10_readNumber_10 (Or.inl ft_10_2) rfl ?_
    obtain ⟨g1, h⟩ := h
    obtain ⟨g2, h⟩ := h
    refine a_icmp_ge (tgt := 73) hΓ g1 g2 dX10_readNumber_13 (by decide) (fun c3 => ?_) (fun c3 => ?_)
    · rw [if_pos c3] at h
      refine a_aload_n hΓ 0 dX10_readNumber_16 rfl rfl ?_
      refine n_getR hΓ fl_RX10_11 cl_10 kd_88 lz_88 dX10_readNumber_17 ft_10_1 rf_88_1 ?_
      refine a_aload_n hΓ 0 dX10_readNumber_20 rfl rfl ?_
      refine n_getI (x := (M 88 5)) hΓ fl_RX10_29 cl_10 kd_88 lz_88 dX10_readNumber_21 (Or.inl ft_10_5) rfl ?_
      obtain ⟨g4, h⟩ := h
      refine n_iald (x := (M 89 (M 88 5))) hΓ dX10_readNumber_24 kd_89 lz_89 g4 rfl ?_
      obtain ⟨P5, q6, h⟩ := h
      refine n_callS (av := [aI (M 89 (M 88 5))]) (st := []) hΓ (ct_wX10_isDigit _ _ (M 89 (M 88 5)) M P5 q6) my_X10_isDigit ml_RX10_54 rfl (Nat.le_trans (by decide) hh) (by decide) (Nat.le_of_ble_eq_true rfl) rfl dX10_readNumber_25 (fun v Z' hq => ?_)
      obtain ⟨r7, M8, rfl, rfl, hq⟩ := hq
      have h := h r7 M8 hq
      dsimp only at h
      obtain ⟨g9, h⟩ := h
      refine a_if_eq (tgt := 73) hΓ g9 dX10_readNumber_28 (by decide) (fun c10 => ?_) (fun c10 => ?_)
      · rw [if_pos c10] at h
        exact a_vret hΓ hr dX10_readNumber_73 ⟨_, rfl, rfl, h⟩
      · rw [if_neg c10] at h
        refine a_aload_n hΓ 0 dX10_readNumber_31 rfl rfl ?_
        refine a_aload_n hΓ 0 dX10_readNumber_32 rfl rfl ?_
        refine n_getI (x := (M8 88 8)) hΓ fl_RX10_60 cl_10 kd_88 lz_88 dX10_readNumber_33 (Or.inl ft_10_8) rfl ?_
        refine a_bipush hΓ dX10_readNumber_36 (by decide) ?_
        refine a_imul hΓ dX10_readNumber_38 ?_
        refine a_aload_n hΓ 0 dX10_readNumber_39 rfl rfl ?_
        refine n_getR hΓ fl_RX10_11 cl_10 kd_88 lz_88 dX10_readNumber_40 ft_10_1 rf_88_1 ?_
        refine a_aload_n hΓ 0 dX10_readNumber_43 rfl rfl ?_
        refine n_getI (x := (M8 88 5)) hΓ fl_RX10_29 cl_10 kd_88 lz_88 dX10_readNumber_44 (Or.inl ft_10_5) rfl ?_
        obtain ⟨g11, h⟩ := h
        refine n_iald (x := (M8 89 (M8 88 5))) hΓ dX10_readNumber_47 kd_89 lz_89 g11 rfl ?_
        refine a_iadd hΓ dX10_readNumber_48 ?_
        refine a_bipush hΓ dX10_readNumber_49 (by decide) ?_
        refine a_isub hΓ dX10_readNumber_51 ?_
        refine a_bipush hΓ dX10_readNumber_52 (by decide) ?_
        obtain ⟨P12, q13, h⟩ := h
        refine n_callS (av := [aI ((((M8 88 8) * 10) + (M8 89 (M8 88 5))) - 48), aI 24]) (st := [aR 88]) hΓ (ct_wJ9_min_7cf53 _ _ ((((M8 88 8) * 10) + (M8 89 (M8 88 5))) - 48) 24 M8 P12 q13) my_J9_min_7cf53 ml_RX10_63 rfl (Nat.le_trans (by decide) hh) (by decide) (Nat.le_of_ble_eq_true rfl) rfl dX10_readNumber_54 (fun v Z' hq => ?_)
        obtain ⟨r14, M15, rfl, rfl, hq⟩ := hq
        have h := h r14 M15 hq
        dsimp only at h
        refine n_putI (j := 8) hΓ fl_RX10_60 cl_10 nf_10_8 kd_88 lz_88 dX10_readNumber_57 (Or.inl ft_10_8) rfl ?_
        refine a_aload_n hΓ 0 dX10_readNumber_60 rfl rfl ?_
        refine a_dupR hΓ dX10_readNumber_61 ?_
        refine n_getI (x := (M15 88 5)) hΓ fl_RX10_29 cl_10 kd_88 lz_88 dX10_readNumber_62 (Or.inl ft_10_5) rfl ?_
        refine a_iconst hΓ dX10_readNumber_65 ?_
        refine a_iadd hΓ dX10_readNumber_66 ?_
        refine n_putI (j := 5) hΓ fl_RX10_29 cl_10 nf_10_5 kd_88 lz_88 dX10_readNumber_67 (Or.inl ft_10_5) rfl ?_
        refine a_goto (tgt := 5) hΓ dX10_readNumber_70 (by decide) ?_
        exact ih (up (up M15 88 8 r14) 88 5 ((M15 88 5) + 1)) h
    · rw [if_neg c3] at h
      exact a_vret hΓ hr dX10_readNumber_73 ⟨_, rfl, rfl, h⟩
def wX10_readNumber  (M : Mm) (Q : Mm → Prop) : Prop :=
    ∃ n, wX10_readNumber_5 Q n (up M 88 8 0)
set_option maxHeartbeats 4000000 in
theorem s_wX10_readNumber {Γ : Cx} {h : Nat} (hΓ : Ok Γ cX10_readNumber RX10 1 h 0 0) (hh : 2 ≤ h) (hr : (cxm Γ).sig.returnType = none) {Q : Mm → Prop}  (M : Mm) (h : wX10_readNumber  M Q) : Wa Γ 1 (Kf Γ (QV Q) 0 0) 0 0 0 [(0, aR 88)] [] (NC, RF, M) := by
  unfold wX10_readNumber at h
  refine a_aload_n hΓ 0 dX10_readNumber_0 rfl rfl ?_
  refine a_iconst hΓ dX10_readNumber_1 ?_
  refine n_putI (j := 8) hΓ fl_RX10_60 cl_10 nf_10_8 kd_88 lz_88 dX10_readNumber_2 (Or.inl ft_10_8) rfl ?_
  obtain ⟨f1, h⟩ := h
  exact s_wX10_readNumber_5 hΓ (Nat.le_trans (by decide) hh) hr  f1 (up M 88 8 0) h
theorem ct_wX10_readNumber (l : Launch) (g : Gp)  (M : Mm) (Q : Mm → Prop) (h : wX10_readNumber  M Q) : Ct l g yX10_readNumber cX10_readNumber 1 none 2 0 0 [aR 88] (NC, RF, M) (QV Q) :=
  ct_of (by decide) (Nat.le_of_ble_eq_true rfl) (fun Γ hg hl hr _ hΓ => by subst hg; subst hl; exact s_wX10_readNumber hΓ (by decide) hr  M h)
def wX10_step_38 (Q : Mm → Prop) (M : Mm) : Prop :=
    (inR (M 88 5)) ∧
    (inR (M 88 2)) ∧
    (if (M 88 5) < (M 88 2) then
      (0 ≤ (M 88 5) ∧ (M 88 5) < 400) ∧
      Bd (wX10_isDigit (M 89 (M 88 5)) (up M 88 7 (M 88 5))) (fun r7 M8 =>
      (inR r7) ∧
      (if r7 = 0 then
        (0 ≤ (M8 88 5) ∧ (M8 88 5) < 400) ∧
        Q (up (up M8 88 6 (M8 89 (M8 88 5))) 88 5 ((M8 88 5) + 1))
      else
        Bv (wX10_readNumber (up M8 88 6 256)) (fun M15 =>
        Q M15)))
    else
      Q (up (up M 88 7 (M 88 5)) 88 6 (-1)))
set_option maxHeartbeats 4000000 in
theorem s_wX10_step_38 {Γ : Cx} {h : Nat} (hΓ : Ok Γ cX10_step RX10 1 h 0 0) (hh : 3 ≤ h) (hr : (cxm Γ).sig.returnType = none) {Q : Mm → Prop}   (M : Mm) (h : wX10_step_38 Q  M) : Wa Γ 1 (Kf Γ (QV Q) 0 0) 0 0 38 [(0, aR 88)] [] (NC, RF, M) := by
  unfold wX10_step_38 at h
  refine a_aload_n hΓ 0 dX10_step_38 rfl rfl ?_
  refine a_aload_n hΓ 0 dX10_step_39 rfl rfl ?_
  refine n_getI (x := (M 88 5)) hΓ fl_RX10_29 cl_10 kd_88 lz_88 dX10_step_40 (Or.inl ft_10_5) rfl ?_
  refine n_putI (j := 7) hΓ fl_RX10_48 cl_10 nf_10_7 kd_88 lz_88 dX10_step_43 (Or.inl ft_10_7) rfl ?_
  refine a_aload_n hΓ 0 dX10_step_46 rfl rfl ?_
  refine n_getI (x := (M 88 5)) hΓ fl_RX10_29 cl_10 kd_88 lz_88 dX10_step_47 (Or.inl ft_10_5) rfl ?_
  refine a_aload_n hΓ 0 dX10_step_50 rfl rfl ?_
  refine n_getI (x := (M 88 2)) hΓ fl_RX10_23 cl_10 kd_88 lz_88 dX10_step_51 (Or.inl ft_10_2) rfl ?_
  obtain ⟨g1, h⟩ := h
  obtain ⟨g2, h⟩ := h
  refine a_icmp_lt (tgt := 65) hΓ g1 g2 dX10_step_54 (by decide) (fun c3 => ?_) (fun c3 => ?_)
  · rw [if_pos c3] at h
    refine a_aload_n hΓ 0 dX10_step_65 rfl rfl ?_
    refine n_getR hΓ fl_RX10_11 cl_10 kd_88 lz_88 dX10_step_66 ft_10_1 rf_88_1 ?_
    refine a_aload_n hΓ 0 dX10_step_69 rfl rfl ?_
    refine n_getI (x := (M 88 5)) hΓ fl_RX10_29 cl_10 kd_88 lz_88 dX10_step_70 (Or.inl ft_10_5) rfl ?_
    obtain ⟨g4, h⟩ := h
    refine n_iald (x := (M 89 (M 88 5))) hΓ dX10_step_73 kd_89 lz_89 g4 rfl ?_
    obtain ⟨P5, q6, h⟩ := h
    refine n_callS (av := [aI (M 89 (M 88 5))]) (st := []) hΓ (ct_wX10_isDigit _ _ (M 89 (M 88 5)) (up M 88 7 (M 88 5)) P5 q6) my_X10_isDigit ml_RX10_54 rfl (Nat.le_trans (by decide) hh) (by decide) (Nat.le_of_ble_eq_true rfl) rfl dX10_step_74 (fun v Z' hq => ?_)
    obtain ⟨r7, M8, rfl, rfl, hq⟩ := hq
    have h := h r7 M8 hq
    dsimp only at h
    obtain ⟨g9, h⟩ := h
    refine a_if_eq (tgt := 94) hΓ g9 dX10_step_77 (by decide) (fun c10 => ?_) (fun c10 => ?_)
    · rw [if_pos c10] at h
      refine a_aload_n hΓ 0 dX10_step_94 rfl rfl ?_
      refine a_aload_n hΓ 0 dX10_step_95 rfl rfl ?_
      refine n_getR hΓ fl_RX10_11 cl_10 kd_88 lz_88 dX10_step_96 ft_10_1 rf_88_1 ?_
      refine a_aload_n hΓ 0 dX10_step_99 rfl rfl ?_
      refine n_getI (x := (M8 88 5)) hΓ fl_RX10_29 cl_10 kd_88 lz_88 dX10_step_100 (Or.inl ft_10_5) rfl ?_
      obtain ⟨g11, h⟩ := h
      refine n_iald (x := (M8 89 (M8 88 5))) hΓ dX10_step_103 kd_89 lz_89 g11 rfl ?_
      refine n_putI (j := 6) hΓ fl_RX10_51 cl_10 nf_10_6 kd_88 lz_88 dX10_step_104 (Or.inl ft_10_6) rfl ?_
      refine a_aload_n hΓ 0 dX10_step_107 rfl rfl ?_
      refine a_dupR hΓ dX10_step_108 ?_
      refine n_getI (x := (M8 88 5)) hΓ fl_RX10_29 cl_10 kd_88 lz_88 dX10_step_109 (Or.inl ft_10_5) rfl ?_
      refine a_iconst hΓ dX10_step_112 ?_
      refine a_iadd hΓ dX10_step_113 ?_
      refine n_putI (j := 5) hΓ fl_RX10_29 cl_10 nf_10_5 kd_88 lz_88 dX10_step_114 (Or.inl ft_10_5) rfl ?_
      exact a_vret hΓ hr dX10_step_117 ⟨_, rfl, rfl, h⟩
    · rw [if_neg c10] at h
      refine a_aload_n hΓ 0 dX10_step_80 rfl rfl ?_
      refine a_sipush hΓ dX10_step_81 (by decide) ?_
      refine n_putI (j := 6) hΓ fl_RX10_51 cl_10 nf_10_6 kd_88 lz_88 dX10_step_84 (Or.inl ft_10_6) rfl ?_
      refine a_aload_n hΓ 0 dX10_step_87 rfl rfl ?_
      obtain ⟨P12, q13, h⟩ := h
      refine n_callV (c := 88) (av := []) (st := []) hΓ (ct_wX10_readNumber _ _  (up M8 88 6 256) P12 q13) my_X10_readNumber ml_RX10_57 ni_X10_readNumber kd_88 rfl lz_88 rfl (Nat.le_trans (by decide) hh) (by decide) (Nat.le_of_ble_eq_true rfl) rfl dX10_step_88 (fun v Z' hq => ?_)
      obtain ⟨M15, rfl, rfl, hq⟩ := hq
      have h := h M15 hq
      dsimp only at h
      refine a_goto (tgt := 117) hΓ dX10_step_91 (by decide) ?_
      exact a_vret hΓ hr dX10_step_117 ⟨_, rfl, rfl, h⟩
  · rw [if_neg c3] at h
    refine a_aload_n hΓ 0 dX10_step_57 rfl rfl ?_
    refine a_iconst hΓ dX10_step_58 ?_
    refine n_putI (j := 6) hΓ fl_RX10_51 cl_10 nf_10_6 kd_88 lz_88 dX10_step_59 (Or.inl ft_10_6) rfl ?_
    refine a_goto (tgt := 117) hΓ dX10_step_62 (by decide) ?_
    exact a_vret hΓ hr dX10_step_117 ⟨_, rfl, rfl, h⟩
def wX10_step_0 (Q : Mm → Prop) : Nat → Mm → Prop
  | 0, _ => False
  | f + 1, M => (inR (M 88 5)) ∧
    (inR (M 88 2)) ∧
    (if (M 88 5) < (M 88 2) then
      (0 ≤ (M 88 5) ∧ (M 88 5) < 400) ∧
      (inR (M 89 (M 88 5))) ∧
      (if (M 89 (M 88 5)) = 32 then
        (wX10_step_0 Q f) (up M 88 5 ((M 88 5) + 1))
      else
        wX10_step_38 Q M)
    else
      wX10_step_38 Q M)
set_option maxHeartbeats 4000000 in
theorem s_wX10_step_0 {Γ : Cx} {h : Nat} (hΓ : Ok Γ cX10_step RX10 1 h 0 0) (hh : 3 ≤ h) (hr : (cxm Γ).sig.returnType = none) {Q : Mm → Prop}   : ∀ (f : Nat) (M : Mm), wX10_step_0 Q  f M → Wa Γ 1 (Kf Γ (QV Q) 0 0) 0 0 0 [(0, aR 88)] [] (NC, RF, M) := by
  intro f
  induction f with
  | zero => intro M h; exact h.elim
  | succ f ih =>
    intro M h
    unfold wX10_step_0 at h
    refine a_aload_n hΓ 0 dX10_step_0 rfl rfl ?_
    refine n_getI (x := (M 88 5)) hΓ fl_RX10_29 cl_10 kd_88 lz_88 dX10_step_1 (Or.inl ft_10_5) rfl ?_
    refine a_aload_n hΓ 0 dX10_step_4 rfl rfl ?_
    refine n_getI (x := (M 88 2)) hΓ fl_RX10_23 cl_10 kd_88 lz_88 dX10_step_5 (Or.inl ft_10_2) rfl ?_
    obtain ⟨g1, h⟩ := h
    obtain ⟨g2, h⟩ := h
    refine a_icmp_ge (tgt := 38) hΓ g1 g2 dX10_step_8 (by decide) (fun c3 => ?_) (fun c3 => ?_)
    · rw [if_pos c3] at h
      refine a_aload_n hΓ 0 dX10_step_11 rfl rfl ?_
      refine n_getR hΓ fl_RX10_11 cl_10 kd_88 lz_88 dX10_step_12 ft_10_1 rf_88_1 ?_
      refine a_aload_n hΓ 0 dX10_step_15 rfl rfl ?_
      refine n_getI (x := (M 88 5)) hΓ fl_RX10_29 cl_10 kd_88 lz_88 dX10_step_16 (Or.inl ft_10_5) rfl ?_
      obtain ⟨g4, h⟩ := h
      refine n_iald (x := (M 89 (M 88 5))) hΓ dX10_step_19 kd_89 lz_89 g4 rfl ?_
      refine a_bipush hΓ dX10_step_20 (by decide) ?_
      obtain ⟨g5, h⟩ := h
      refine a_icmp_ne (tgt := 38) hΓ g5 (inRl (by decide)) dX10_step_22 (by decide) (fun c6 => ?_) (fun c6 => ?_)
      · rw [if_pos c6] at h
        refine a_aload_n hΓ 0 dX10_step_25 rfl rfl ?_
        refine a_dupR hΓ dX10_step_26 ?_
        refine n_getI (x := (M 88 5)) hΓ fl_RX10_29 cl_10 kd_88 lz_88 dX10_step_27 (Or.inl ft_10_5) rfl ?_
        refine a_iconst hΓ dX10_step_30 ?_
        refine a_iadd hΓ dX10_step_31 ?_
        refine n_putI (j := 5) hΓ fl_RX10_29 cl_10 nf_10_5 kd_88 lz_88 dX10_step_32 (Or.inl ft_10_5) rfl ?_
        refine a_goto (tgt := 0) hΓ dX10_step_35 (by decide) ?_
        exact ih (up M 88 5 ((M 88 5) + 1)) h
      · rw [if_neg c6] at h
        exact s_wX10_step_38 hΓ (Nat.le_trans (by decide) hh) hr  M h
    · rw [if_neg c3] at h
      exact s_wX10_step_38 hΓ (Nat.le_trans (by decide) hh) hr  M h
def wX10_step  (M : Mm) (Q : Mm → Prop) : Prop :=
    ∃ n, wX10_step_0 Q n M
set_option maxHeartbeats 4000000 in
theorem s_wX10_step {Γ : Cx} {h : Nat} (hΓ : Ok Γ cX10_step RX10 1 h 0 0) (hh : 3 ≤ h) (hr : (cxm Γ).sig.returnType = none) {Q : Mm → Prop}  (M : Mm) (h : wX10_step  M Q) : Wa Γ 1 (Kf Γ (QV Q) 0 0) 0 0 0 [(0, aR 88)] [] (NC, RF, M) := by
  unfold wX10_step at h
  obtain ⟨f1, h⟩ := h
  exact s_wX10_step_0 hΓ (Nat.le_trans (by decide) hh) hr  f1 M h
theorem ct_wX10_step (l : Launch) (g : Gp)  (M : Mm) (Q : Mm → Prop) (h : wX10_step  M Q) : Ct l g yX10_step cX10_step 1 none 3 0 0 [aR 88] (NC, RF, M) (QV Q) :=
  ct_of (by decide) (Nat.le_of_ble_eq_true rfl) (fun Γ hg hl hr _ hΓ => by subst hg; subst hl; exact s_wX10_step hΓ (by decide) hr  M h)
