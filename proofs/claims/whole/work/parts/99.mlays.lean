/-! ===== the class's least miss; the model's costs ===== -/
theorem avd_cases (T : Dp) : (T.2.1 < T.1 ∧ avd T = 100000000) ∨ (T.1 ≤ T.2.1 ∧ avd T = lst T) := by
  unfold avd
  by_cases c : T.2.1 < T.1
  · exact Or.inl ⟨c, if_pos c⟩
  · exact Or.inr ⟨by omega, if_neg c⟩
section Lm
variable {kv : Mm → Prop} {kk : Int → Mm → Prop} {M bb : Mm} {B : Int → Int} {s : Int} {S : Nat}
theorem avd_key {T : Dp} (ab : 0 ≤ avd T ∧ avd T ≤ 100000000 ∧ (T.1 ≤ T.2.1 → avd T < 100000000)) : ∃ r, avd T = r ∧ inR r ∧ ((T.2.1 < T.1 ∧ ¬ r < 100000000) ∨ (T.1 ≤ T.2.1 ∧ r = lst T ∧ r < 100000000)) := by
  refine ⟨avd T, rfl, (inRof ⟨by omega, by omega⟩), ?_⟩
  rcases avd_cases T with ⟨q, ea⟩ | ⟨ne, ea⟩
  · exact Or.inl ⟨q, by omega⟩
  · exact Or.inr ⟨ne, ea, ab.2.2 ne⟩
theorem b_lm (h : BkR M B) (hnt : Nt M B s) (hS : Lgs B s S) (hSn : S < 16777216) (h1 : (bwB B s S 119).1 ≤ (bwB B s S 119).2.1 → ∀ (M' : Mm) (bt : Nat → Int), (∀ c : Nat, c ≠ 90 → c ≠ 91 → c ≠ 92 → c ≠ 93 → c ≠ 94 → c ≠ 95 → c ≠ 97 → c ≠ 98 → M' c = M c) → (∀ e : Nat, e < 120 → Um (bwB B s S (119 - e)).1 (bwB B s S (119 - e)).2.1 (bwB B s S (119 - e)).2.2 (bt e)) → (∀ e : Nat, e < 120 → M' 98 (e : Int) = cvR (Lw B s) (Hw B s) (Cuts B s) bt e) → M' 90 7 = 1 → M' 90 12 = M 90 12 → kk (lst (bwB B s S 119)) M') (h0 : (bwB B s S 119).2.1 < (bwB B s S 119).1 → ∀ M' : Mm, (∀ c : Nat, c ≠ 91 → c ≠ 92 → c ≠ 93 → c ≠ 94 → c ≠ 95 → c ≠ 97 → M' c = M c) → kk (-1) M') : Bd (wX5_leastMiss (S : Int) M) kk := by
  apply Bd.of; unfold wX5_leastMiss
  refine b_sort h hnt hS hSn (fun M1 f1 hc1 => ?_)
  refine b_sb hS hc1 (fun M2 f2 hsb => ?_)
  have ab := avd_bw (B := B) (s := s) (S := S) h hS
  have hc2 := f2.ctx hc1
  obtain ⟨r, er, hr, hr2⟩ := avd_key ab
  rw [er]
  refine ⟨hr, ?_⟩
  rcases hr2 with ⟨q, ea⟩ | ⟨ne, ea, eb⟩
  · rw [if_neg ea]
    exact h0 q M2 (fun c a1 a2 a3 a4 a5 a6 => by rw [f2 c a1 a2 a3 a5 a6, f1 c a4])
  · rw [if_pos eb, ea]
    refine b_fb (bt := fun e => M2 95 (e : Int)) (fun d hd => ?_) hc2.1 hc2.2.1 (fun e he => rfl) (fun M3 f3 h3 => ?_)
    · have u := (hsb.2 ne d hd).1
      have bn := bw_bnd (s := s) h hS (119 - d) (by omega)
      have b1 := bn.1
      have b2 := bn.2.1
      show 0 ≤ M2 95 (d : Int) ∧ M2 95 (d : Int) ≤ 1000
      omega
    · refine h1 ne _ (fun e => M2 95 (e : Int)) (fun c a0 a1 a2 a3 a4 a5 a6 a7 => by rw [up_cell a0, f3 c a7, f2 c a1 a2 a3 a5 a6, f1 c a4]) (fun e he => hsb.2 ne e he) (fun e he => by rw [up_ne (by decide)]; exact h3 e he) up_eq (by rw [up_nei (by decide), f3 90 (by decide), f2 90 (by decide) (by decide) (by decide) (by decide) (by decide), f1 90 (by decide)])
end Lm
/-! the model -/
def CMl (M : Mm) (B : Int → Int) (s : Int) (S n : Nat) : Prop := ∀ d : Nat, d < 120 → ∀ z : Int, 0 ≤ z → z ≤ 1000 → M 117 (1001 * (d : Int) + z) = if z ≤ Cp B s d then coR B S (d : Int) n z else 1000000000
section La
variable {kv : Mm → Prop} {kk : Int → Mm → Prop} {bb : Mm} {B : Int → Int} {s : Int} {S : Nat}
theorem l_l19 {Q : Mm → Prop} {k2 : Int → Mm → Prop} {v2 : Int} {d : Nat} (hd : d < 120) (h : BkR bb B) : ∀ (k i : Nat) (M : Mm), i + k = 1001 → (∀ z : Int, 0 ≤ z → z < (i : Int) → M 117 (1001 * (d : Int) + z) = if z ≤ Cp B s d then 0 else 1000000000) → (∀ M' : Mm, (∀ c : Nat, c ≠ 117 → M' c = M c) → (∀ x : Int, x < 1001 * (d : Int) → M' 117 x = M 117 x) → (∀ z : Int, 0 ≤ z → z ≤ 1000 → M' 117 (1001 * (d : Int) + z) = if z ≤ Cp B s d then 0 else 1000000000) → k2 ((d : Int) + 1) M') → wX12_lays_19 Q k2 s v2 (d : Int) (left B s (d : Int)) (k + 1) (i : Int) M := by
  have hl := left_range (s := s) (d := (d : Int)) h
  intro k
  induction k with
  | zero =>
    intro i M hi h1 hk
    unfold wX12_lays_19
    refine ⟨(inRof ⟨by omega, by omega⟩), ?_⟩
    rw [if_neg (by omega)]
    exact hk M (fun _ _ => rfl) (fun _ _ => rfl) (fun z z1 z2 => h1 z z1 (by omega))
  | succ k ih =>
    intro i M hi h1 hk
    unfold wX12_lays_19
    refine ⟨(inRof ⟨by omega, by omega⟩), ?_⟩
    rw [if_pos (by omega)]
    refine ⟨(inRof ⟨by omega, by omega⟩), ?_⟩
    have go : ∀ x : Int, x = (if (i : Int) ≤ Cp B s d then 0 else 1000000000) → wX12_lays_19 Q k2 s v2 (d : Int) (left B s (d : Int)) (k + 1) ((i : Int) + 1) (up M 117 (1001 * (d : Int) + (i : Int)) x) := by
      intro x hx
      refine ih (i + 1) _ (by omega) (fun z z1 z2 => ?_) (fun M' k1 k2' k3 => hk M' (fun c hc => by rw [k1 c hc, up_cell hc]) (fun y hy => by rw [k2' y hy, up_nei (by omega)]) k3)
      by_cases q : z = (i : Int)
      · rw [q, up_eq]; exact hx
      · rw [up_nei (by omega)]; exact h1 z z1 (by omega)
    have ec : Cp B s d = if left B s (d : Int) = -1 then 1000 else left B s (d : Int) := rfl
    by_cases c1 : left B s (d : Int) = -1
    · rw [if_pos c1]
      rw [if_pos c1] at ec
      refine ⟨⟨by omega, by omega⟩, go 0 ?_⟩
      rw [if_pos (by omega)]
    · rw [if_neg c1]
      rw [if_neg c1] at ec
      by_cases c2 : (i : Int) ≤ left B s (d : Int)
      · rw [if_pos c2]
        refine ⟨⟨by omega, by omega⟩, go 0 ?_⟩
        rw [if_pos (by omega)]
      · rw [if_neg c2]
        refine ⟨⟨by omega, by omega⟩, go 1000000000 ?_⟩
        rw [if_neg (by omega)]
theorem l_l2 {Q : Mm → Prop} (hs : inR s) (h : BkR bb B) : ∀ (k d : Nat) (M : Mm), d + k = 120 → M 103 = B → (∀ e : Nat, e < d → ∀ z : Int, 0 ≤ z → z ≤ 1000 → M 117 (1001 * (e : Int) + z) = if z ≤ Cp B s e then 0 else 1000000000) → (∀ M' : Mm, (∀ c : Nat, c ≠ 117 → M' c = M c) → CMl M' B s S 0 → ∃ n, wX12_lays_74 Q (S : Int) n 0 M') → wX12_lays_2 Q s (S : Int) (k + 1) (d : Int) M := by
  intro k
  induction k with
  | zero =>
    intro d M hd hB h1 hk
    unfold wX12_lays_2
    refine ⟨(inRof ⟨by omega, by omega⟩), ?_⟩
    rw [if_neg (by omega)]
    exact hk M (fun _ _ => rfl) (fun e he => h1 e (by omega))
  | succ k ih =>
    intro d M hd hB h1 hk
    unfold wX12_lays_2
    refine ⟨(inRof ⟨by omega, by omega⟩), ?_⟩
    rw [if_pos (by omega)]
    refine b_left (by rw [hB]; exact h) hs (inRof ⟨by omega, by omega⟩) ?_
    rw [hB]
    refine ⟨1002, l_l19 (by omega) h 1001 0 M (by omega) (fun z z1 z2 => by omega) (fun M1 k1 k2 k3 => ?_)⟩
    refine ih (d + 1) M1 (by omega) (by rw [k1 103 (by decide)]; exact hB) (fun e he z z1 z2 => ?_) (fun M2 g1 g2 => hk M2 (fun c hc => by rw [g1 c hc, k1 c hc]) g2)
    by_cases q : e = d
    · rw [q]; exact k3 z z1 z2
    · rw [k2 _ (by omega)]; exact h1 e (by omega) z z1 z2
theorem l_l113 {Q : Mm → Prop} {k74 : Int → Mm → Prop} {v2 : Int} {l D : Nat} (hl : (l : Int) < B 724) (h : BkR bb B) (hS : Lgs B s S) (hb : S.testBit l = true) (hD : B (504 + 9 * (l : Int)) = (D : Int)) (hD2 : D < 120) (hl24 : l < 24) : ∀ (k i : Nat) (M : Mm), i + k = 1001 → M 103 = B → (∀ z : Int, 0 ≤ z → z < (i : Int) → M 117 (1001 * (D : Int) + z) = if z ≤ Cp B s D then coR B S (D : Int) (l + 1) z else 1000000000) → (∀ z : Int, (i : Int) ≤ z → z ≤ 1000 → M 117 (1001 * (D : Int) + z) = if z ≤ Cp B s D then coR B S (D : Int) l z else 1000000000) → (∀ M' : Mm, (∀ c : Nat, c ≠ 117 → M' c = M c) → (∀ x : Int, x < 1001 * (D : Int) ∨ 1001 * (D : Int) + 1000 < x → M' 117 x = M 117 x) → (∀ z : Int, 0 ≤ z → z ≤ 1000 → M' 117 (1001 * (D : Int) + z) = if z ≤ Cp B s D then coR B S (D : Int) (l + 1) z else 1000000000) → k74 ((l : Int) + 1) M') → wX12_lays_113 Q k74 v2 (l : Int) (rd B (l : Int) 0) (rd B (l : Int) 1) (k + 1) (i : Int) M := by
  have hr := hS.rd h hb
  have hw := wt_log h hS hb
  have ho : onp B S (D : Int) l = true := onp_iff.mpr ⟨hb, hD⟩
  have ec : ∀ z, coR B S (D : Int) (l + 1) z = coR B S (D : Int) l z + wtB B l * dst z (rd B (l : Int) 0) (rd B (l : Int) 1) := fun z => by
    show coR B S (D : Int) l z + (if onp B S (D : Int) l = true then wtB B l * dst z (rd B (l : Int) 0) (rd B (l : Int) 1) else 0) = _
    rw [if_pos ho]
  intro k
  induction k with
  | zero =>
    intro i M hi hB h1 h2 hk
    unfold wX12_lays_113
    refine ⟨(inRof ⟨by omega, by omega⟩), ?_⟩
    rw [if_neg (by omega)]
    exact hk M (fun _ _ => rfl) (fun _ _ => rfl) (fun z z1 z2 => h1 z z1 (by omega))
  | succ k ih =>
    intro i M hi hB h1 h2 hk
    have cr := coR_range (z := (i : Int)) (d := (D : Int)) h hS (by omega) l
    have pl := pcB_le (p := onp B S (D : Int)) l
    have h2i := h2 (i : Int) (Int.le_refl _) (by omega)
    unfold wX12_lays_113
    refine ⟨(inRof ⟨by omega, by omega⟩), ?_⟩
    rw [if_pos (by omega)]
    refine b_logAt (x := 504 + 9 * (l : Int)) (by omega) (by omega) (by omega) ?_
    rw [hB, hD]
    refine ⟨⟨by omega, by omega⟩, ?_⟩
    rw [h2i]
    have stay : ¬ (i : Int) ≤ Cp B s D → wX12_lays_113 Q k74 v2 (l : Int) (rd B (l : Int) 0) (rd B (l : Int) 1) (k + 1) ((i : Int) + 1) M := by
      intro c
      refine ih (i + 1) M (by omega) hB (fun z z1 z2 => ?_) (fun z z1 z2 => h2 z (by omega) z2) hk
      by_cases q : z = (i : Int)
      · rw [q, h2i, if_neg c, if_neg c]
      · exact h1 z z1 (by omega)
    have go : (i : Int) ≤ Cp B s D → ∀ x : Int, x = coR B S (D : Int) (l + 1) (i : Int) → wX12_lays_113 Q k74 v2 (l : Int) (rd B (l : Int) 0) (rd B (l : Int) 1) (k + 1) ((i : Int) + 1) (up M 117 (1001 * (D : Int) + (i : Int)) x) := by
      intro c x hx
      refine ih (i + 1) _ (by omega) (by rw [up_cell (by decide)]; exact hB) (fun z z1 z2 => ?_) (fun z z1 z2 => by rw [up_nei (by omega)]; exact h2 z (by omega) z2) (fun M' k1 k2 k3 => hk M' (fun c hc => by rw [k1 c hc, up_cell hc]) (fun y hy => by rw [k2 y hy, up_nei (by omega)]) k3)
      by_cases q : z = (i : Int)
      · rw [q, up_eq, if_pos c]; exact hx
      · rw [up_nei (by omega)]; exact h1 z z1 (by omega)
    by_cases c : (i : Int) ≤ Cp B s D
    · rw [if_pos c]
      refine ⟨(inRof ⟨by omega, by omega⟩), ?_⟩
      rw [if_pos (by omega)]
      refine b_logAt (x := 507 + 9 * (l : Int)) (by omega) (by omega) (by omega) ?_
      have ew : M 103 (507 + 9 * (l : Int)) = wtB B l := by rw [hB]; rfl
      rw [ew]
      have go := go c
      refine ⟨(inRof ⟨by omega, by omega⟩), ?_⟩
      by_cases c1 : (i : Int) < rd B (l : Int) 0
      · rw [if_pos c1]
        refine go _ ?_
        rw [ec, show dst (i : Int) (rd B (l : Int) 0) (rd B (l : Int) 1) = rd B (l : Int) 0 - (i : Int) by unfold dst; omega]
      · rw [if_neg c1]
        refine ⟨(inRof ⟨by omega, by omega⟩), ?_⟩
        by_cases c2 : (i : Int) ≤ rd B (l : Int) 1
        · rw [if_pos c2]
          refine go _ ?_
          rw [ec, show dst (i : Int) (rd B (l : Int) 0) (rd B (l : Int) 1) = 0 by unfold dst; omega]
        · rw [if_neg c2]
          refine go _ ?_
          rw [ec, show dst (i : Int) (rd B (l : Int) 0) (rd B (l : Int) 1) = (i : Int) - rd B (l : Int) 1 by unfold dst; omega]
    · rw [if_neg c]
      refine ⟨(inRl (by decide)), ?_⟩
      rw [if_neg (by decide)]
      exact stay c
theorem l_l74 {Q : Mm → Prop} {N : Nat} (h : BkR bb B) (hS : Lgs B s S) (hSn : S < 16777216) (hN : B 724 = (N : Int)) : ∀ (k l : Nat) (M : Mm), l + k = N → M 103 = B → CMl M B s S l → (∀ M' : Mm, (∀ c : Nat, c ≠ 117 → M' c = M c) → CMl M' B s S N → Q M') → wX12_lays_74 Q (S : Int) (k + 1) (l : Int) M := by
  have n3 := h.1.2.2.2
  intro k
  induction k with
  | zero =>
    intro l M hl hB h1 hk
    unfold wX12_lays_74
    refine b_many (by omega) ?_
    rw [show (721 : Int) + 3 = 724 by omega, hB, hN]
    refine ⟨(inRof ⟨by omega, by omega⟩), (inRof ⟨by omega, by omega⟩), ?_⟩
    rw [if_neg (by omega)]
    refine hk M (fun _ _ => rfl) ?_
    rw [show N = l by omega]
    exact h1
  | succ k ih =>
    intro l M hl hB h1 hk
    unfold wX12_lays_74
    refine b_many (by omega) ?_
    rw [show (721 : Int) + 3 = 724 by omega, hB, hN]
    refine ⟨(inRof ⟨by omega, by omega⟩), (inRof ⟨by omega, by omega⟩), ?_⟩
    rw [if_pos (by omega)]
    have hbt := bit01 (n := S) (j := l) (by omega) (by omega)
    by_cases c : S.testBit l = true
    · rw [if_neg (fun z => hbt.2.mp z c)]
      have hr1 : BkR bb (M 103) := by rw [hB]; exact h
      refine b_rd hr1 (by rw [hB]; omega) (Or.inl rfl) (b_rd hr1 (by rw [hB]; omega) (Or.inr rfl) ?_)
      rw [hB]
      obtain ⟨-, -, r2, -⟩ := h.2.2.2.2.2.2.1 (l : Int) (by omega) (by omega)
      obtain ⟨D, hD⟩ := Int.eq_ofNat_of_zero_le r2.1
      have hD' : B (504 + 9 * (l : Int)) = (D : Int) := hD
      refine ⟨1002, l_l113 (by omega) h hS c hD' (by omega) (by omega) 1001 0 M (by omega) hB (fun z z1 z2 => by omega) (fun z z1 z2 => h1 D (by omega) z z1 z2) (fun M1 k1 k2 k3 => ?_)⟩
      refine ih (l + 1) M1 (by omega) (by rw [k1 103 (by decide)]; exact hB) (fun d hd z z1 z2 => ?_) (fun M2 g1 g2 => hk M2 (fun c hc => by rw [g1 c hc, k1 c hc]) g2)
      by_cases q : d = D
      · rw [q]; exact k3 z z1 z2
      · rw [k2 _ (by omega), h1 d hd z z1 z2]
        have : coR B S (d : Int) (l + 1) z = coR B S (d : Int) l z := by
          show coR B S (d : Int) l z + (if onp B S (d : Int) l = true then wtB B l * dst z (rd B (l : Int) 0) (rd B (l : Int) 1) else 0) = _
          rw [if_neg (fun z => by have := (onp_iff.mp z).2; omega)]
          omega
        rw [this]
    · rw [if_pos (hbt.2.mpr c)]
      refine ih (l + 1) M (by omega) hB (fun d hd z z1 z2 => ?_) hk
      have : coR B S (d : Int) (l + 1) z = coR B S (d : Int) l z := by
        show coR B S (d : Int) l z + (if onp B S (d : Int) l = true then wtB B l * dst z (rd B (l : Int) 0) (rd B (l : Int) 1) else 0) = _
        rw [if_neg (fun z => c (onp_iff.mp z).1)]
        omega
      rw [this]
      exact h1 d hd z z1 z2
/-- the model's costs of all days -/
def CM (M : Mm) (B : Int → Int) (s : Int) (S : Nat) : Prop := ∀ d : Nat, d < 120 → ∀ z : Int, 0 ≤ z → z ≤ 1000 → M 117 (1001 * (d : Int) + z) = if z ≤ Cp B s d then co B S d z else 1000000000
theorem b_lays {M : Mm} (hs : inR s) (hB : M 103 = B) (h : BkR bb B) (hS : Lgs B s S) (hSn : S < 16777216) (hk : ∀ M', (∀ c : Nat, c ≠ 117 → M' c = M c) → CM M' B s S → kv M') : Bv (wX12_lays s (S : Int) M) kv := by
  have n3 := h.1.2.2.2
  apply Bv.of; unfold wX12_lays
  obtain ⟨N, hN⟩ := Int.eq_ofNat_of_zero_le n3.2.1
  have hN' : B 724 = (N : Int) := hN
  refine ⟨121, l_l2 hs h 120 0 M (by omega) hB (fun e he => by omega) (fun M1 k1 k2 => ⟨N + 1, ?_⟩)⟩
  refine l_l74 h hS hSn hN' N 0 M1 (by omega) (by rw [k1 103 (by decide)]; exact hB) k2 (fun M2 g1 g2 => hk M2 (fun c hc => by rw [g1 c hc, k1 c hc]) (fun d hd z z1 z2 => ?_))
  rw [g2 d hd z z1 z2]
  have key : ∀ i : Nat, coR B S (d : Int) (N + i) z = coR B S (d : Int) N z := by
    intro i
    induction i with
    | zero => rfl
    | succ i ih =>
      show coR B S (d : Int) (N + i) z + (if onp B S (d : Int) (N + i) = true then _ else 0) = _
      rw [if_neg (fun y => by have := (hS _ (onp_iff.mp y).1).1; omega), ih]
      omega
  have := key (24 - N)
  rw [show N + (24 - N) = 24 by omega] at this
  unfold co
  rw [this]
end La
