/-! ===== the class's sweeps ===== -/
abbrev fwB (B : Int → Int) (s : Int) (S b : Nat) (top : Int) (k : Nat) : Dp := FW (Lw B s) (Hw B s) (Cp B s) (Cuts B s) (co B S) b top k
abbrev bwB (B : Int → Int) (s : Int) (S k : Nat) : Dp := BW (Lw B s) (Hw B s) (Cp B s) (Cuts B s) (co B S) k
def avd (t : Dp) : Int := if t.2.1 < t.1 then 100000000 else lst t
def zvd (t : Dp) : Int := if t.1 ≤ 0 ∧ 0 ≤ t.2.1 then t.2.2 0 else 100000000
def nUn (B : Int → Int) (S a e : Nat) : Nat := nU B S (a : Int) (e : Int)
def Ctx (M : Mm) (B : Int → Int) (s : Int) (S : Nat) : Prop := BkR M B ∧ Nt M B s ∧ ∀ d : Nat, d < 120 → M 94 (d : Int) = (onS B S (d : Int) : Nat)
section Swp
variable {kv : Mm → Prop} {kk : Int → Mm → Prop} {t : Dp} {n : Nat} {M M' bb : Mm} {B : Int → Int} {s : Int} {S : Nat}
theorem Ctx.fr (h : Ctx M B s S) (f : ∀ c : Nat, c ≤ 80 ∨ c = 94 → M' c = M c) : Ctx M' B s S := ⟨BkR_congr (fun c h1 h2 i _ _ => by rw [f c (by omega)]) (fun _ _ _ => rfl) h.1, h.2.1.fr (fun c h1 h2 => f c (by omega)), fun d hd => by rw [f 94 (by omega)]; exact h.2.2 d hd⟩
theorem FrS.ctx (f : FrS M M') (h : Ctx M B s S) : Ctx M' B s S := h.fr (fun c hc => f c (by omega) (by omega) (by omega))
theorem nUn_le {a e : Nat} : nUn B S a e ≤ 24 := nU_le
theorem nUn_up {a e : Nat} (h : a ≤ e + 1) : nUn B S a (e + 1) = nUn B S a e + pcB (onp B S ((e + 1 : Nat) : Int)) 24 := by
  unfold nUn
  rw [show ((e + 1 : Nat) : Int) = (e : Int) + 1 by omega]
  exact nU_up (by omega)
theorem nUn_dn {a e : Nat} (h : a ≤ e) : nUn B S a e = nUn B S (a + 1) e + pcB (onp B S (a : Int)) 24 := by
  unfold nUn
  rw [show ((a + 1 : Nat) : Int) = (a : Int) + 1 by omega]
  exact nU_dn (by omega)
theorem nUn_one {a : Nat} : nUn B S a a = pcB (onp B S (a : Int)) 24 := nU_one
theorem fw_bnd (h : BkR bb B) (hS : Lgs B s S) {b : Nat} {top : Int} (ht : top ≤ 1000) : ∀ k : Nat, Bnd (fwB B s S b top k) (100000 * ((nUn B S b (b + k) : Nat) : Int))
  | 0 => by
    refine ⟨by show (0 : Int) ≤ 0; omega, ht, fun z h1 h2 => ?_⟩
    have h1 : 0 ≤ z := h1
    have h2 : z ≤ top := h2
    have := co_range (d := b) (z := z) h hS (by omega)
    rw [Nat.add_zero, nUn_one]
    exact this
  | k + 1 => by
    have ih := fw_bnd h hS (b := b) ht k
    have h1 := ih.st (low := Lw B s (b + k)) (high := Hw B s (b + k)) (cp := Cp B s (b + k + 1)) (q := Cuts B s (b + k + 1)) (LH h (b + k)) (cap_range h).2
    have h2 := h1.ad (g := co B S (b + k + 1)) (C := 100000 * ((pcB (onp B S ((b + k + 1 : Nat) : Int)) 24 : Nat) : Int)) (fun z z1 z2 => co_range h hS ⟨z1, z2⟩)
    rw [show b + (k + 1) = b + k + 1 by omega, nUn_up (by omega), show 100000 * ((nUn B S b (b + k) + pcB (onp B S ((b + k + 1 : Nat) : Int)) 24 : Nat) : Int) = 100000 * ((nUn B S b (b + k) : Nat) : Int) + 100000 * ((pcB (onp B S ((b + k + 1 : Nat) : Int)) 24 : Nat) : Int) by omega]
    exact h2
theorem bw_bnd (h : BkR bb B) (hS : Lgs B s S) : ∀ k : Nat, k ≤ 119 → Bnd (bwB B s S k) (100000 * ((nUn B S (119 - k) 119 : Nat) : Int))
  | 0, _ => by
    have hc := cap_range (s := s) (d := 119) h
    refine ⟨by show (0 : Int) ≤ 0; omega, hc.2, fun z h1 h2 => ?_⟩
    have h1 : 0 ≤ z := h1
    have h2 : z ≤ capD B s 119 := h2
    have := co_range (d := 119) (z := z) h hS (by omega)
    rw [Nat.sub_zero, nUn_one]
    exact this
  | k + 1, hk => by
    have ih := bw_bnd h hS k (by omega)
    have hl := LH (s := s) h (118 - k)
    have h1 := ih.st (low := -Hw B s (118 - k)) (high := -Lw B s (118 - k)) (cp := Cp B s (118 - k)) (q := Cuts B s (118 - k + 1)) (by omega) (cap_range h).2
    have h2 := h1.ad (g := co B S (118 - k)) (C := 100000 * ((pcB (onp B S ((118 - k : Nat) : Int)) 24 : Nat) : Int)) (fun z z1 z2 => co_range h hS ⟨z1, z2⟩)
    have e := nUn_dn (B := B) (S := S) (a := 118 - k) (e := 119) (by omega)
    rw [show 118 - k + 1 = 119 - k by omega] at e
    rw [show 119 - (k + 1) = 118 - k by omega, e, show 100000 * ((nUn B S (119 - k) 119 + pcB (onp B S ((118 - k : Nat) : Int)) 24 : Nat) : Int) = 100000 * ((nUn B S (119 - k) 119 : Nat) : Int) + 100000 * ((pcB (onp B S ((118 - k : Nat) : Int)) 24 : Nat) : Int) by omega]
    exact h2
theorem bw_empty {k : Nat} (h : (bwB B s S k).2.1 < (bwB B s S k).1) : ∀ i : Nat, (bwB B s S (k + i)).2.1 < (bwB B s S (k + i)).1
  | 0 => h
  | i + 1 => by
    have ih := bw_empty h i
    show (adc (stp (bwB B s S (k + i)) _ _ _ _) _).2.1 < (adc (stp (bwB B s S (k + i)) _ _ _ _) _).1
    rw [stp_empty ih]
    exact ih
theorem fw_empty {b k : Nat} {top : Int} (h : (fwB B s S b top k).2.1 < (fwB B s S b top k).1) : ∀ i : Nat, (fwB B s S b top (k + i)).2.1 < (fwB B s S b top (k + i)).1
  | 0 => h
  | i + 1 => by
    have ih := fw_empty h i
    show (adc (stp (fwB B s S b top (k + i)) _ _ _ _) _).2.1 < (adc (stp (fwB B s S b top (k + i)) _ _ _ _) _).1
    rw [stp_empty ih]
    exact ih
theorem zvd_empty (h : t.2.1 < t.1) : zvd t = 100000000 := by unfold zvd; rw [if_neg (by omega)]
theorem SL.val (h : SL M t n) : M 91 0 = t.1 ∧ M 91 2 = t.2.2 t.1 := by
  obtain ⟨v, l, m, P, T, h1, h2, h3, h4, -⟩ := h
  refine ⟨h1.1.1, ?_⟩
  rw [← h4 t.1 (Int.le_refl _) h2, h1.1.2.2.1]
  unfold ev
  rw [sm_zero (φ := fun i => T i * max 0 (t.1 - P i)) m (fun i hi' => by
    show T i * max 0 (t.1 - P i) = 0
    have := h3.1 i hi'
    rw [show max 0 (t.1 - P i) = 0 by omega, Int.mul_zero]), show t.1 - t.1 = 0 by omega, Int.mul_zero]
  omega
/-! sort by day -/
theorem l_sd34 {Q : Mm → Prop} {N : Nat} (hS : Lgs B s S) (hSn : S < 16777216) (hN : B 724 = (N : Int)) (hN24 : N ≤ 24) : ∀ (k i : Nat) (M : Mm), i + k = N → BkR M B → (∀ d : Nat, d < 120 → M 94 (d : Int) = (bset (onp B S (d : Int)) i : Nat)) → (∀ M' : Mm, (∀ c : Nat, c ≠ 94 → M' c = M c) → (∀ d : Nat, d < 120 → M' 94 (d : Int) = ((onS B S (d : Int) : Nat) : Int)) → Q M') → wX5_sortByDay_34 Q (S : Int) (k + 1) (i : Int) M := by
  intro k
  induction k with
  | zero =>
    intro i M hi h h94 hk
    have n3 := h.1.2.2.2
    unfold wX5_sortByDay_34
    refine ⟨(inRof ⟨by omega, by omega⟩), (inRof ⟨by omega, by omega⟩), ?_⟩
    rw [if_neg (by omega)]
    refine hk M (fun _ _ => rfl) (fun d hd => ?_)
    rw [h94 d hd]
    have : bset (onp B S (d : Int)) i = onS B S (d : Int) := by
      apply Nat.eq_of_testBit_eq
      intro l
      rw [Bool.eq_iff_iff]
      unfold onS
      rw [bset_bit, bset_bit, onp_iff]
      constructor
      · rintro ⟨z1, z2⟩; exact ⟨by omega, z2⟩
      · rintro ⟨z1, z2⟩
        have := (hS l z2.1).1
        exact ⟨by omega, z2⟩
    rw [this]
  | succ k ih =>
    intro i M hi h h94 hk
    have n3 := h.1.2.2.2
    unfold wX5_sortByDay_34
    refine ⟨(inRof ⟨by omega, by omega⟩), (inRof ⟨by omega, by omega⟩), ?_⟩
    rw [if_pos (by omega)]
    have hbt := bit01 (n := S) (j := i) (by omega) (by omega)
    obtain ⟨⟨-, e17, -⟩, -, r2, -⟩ := h.2.2.2.2.2.2.1 (i : Int) (by omega) (by omega)
    have st : ∀ d : Nat, bset (onp B S (d : Int)) (i + 1) = if onp B S (d : Int) i = true then bset (onp B S (d : Int)) i ||| 2 ^ i else bset (onp B S (d : Int)) i := fun d => rfl
    by_cases c : S.testBit i = true
    · rw [if_pos (hbt.1.mpr c), e17]
      obtain ⟨D, hD⟩ := Int.eq_ofNat_of_zero_le r2.1
      have hD' : B (504 + 9 * (i : Int)) = (D : Int) := hD
      have b24 := bset24 (p := onp B S (D : Int)) (n := i) (by omega)
      have hp := pow24 (show i < 24 by omega)
      rw [hD', h94 D (by omega), shl1 (by omega), lorN (by omega) (by omega)]
      refine ⟨⟨by omega, by omega⟩, ⟨by omega, by omega⟩, ?_⟩
      refine ih (i + 1) _ (by omega) (BkR_up h (by decide)) (fun d hd => ?_) (fun M' k1 k2 => hk M' (fun c hc => by rw [k1 c hc, up_cell hc]) k2)
      rw [st d]
      by_cases q : d = D
      · rw [q, up_eq, if_pos (onp_iff.mpr ⟨c, hD'⟩)]
      · rw [up_nei (by omega), if_neg (fun z => by have := (onp_iff.mp z).2; omega)]; exact h94 d hd
    · rw [if_neg (fun z => c (hbt.1.mp z))]
      refine ih (i + 1) M (by omega) h (fun d hd => ?_) hk
      rw [st d, if_neg (fun z => c (onp_iff.mp z).1)]; exact h94 d hd
theorem l_sd2 {Q : Mm → Prop} {v : Int} : ∀ (k i : Nat) (M : Mm), i + k = 120 → (∀ d : Nat, d < i → M 94 (d : Int) = 0) → (∀ M', (∀ c : Nat, c ≠ 94 → M' c = M c) → (∀ d : Nat, d < 120 → M' 94 (d : Int) = 0) → wX5_sortByDay_21 Q v M') → wX5_sortByDay_2 Q v (k + 1) (i : Int) M := by
  intro k
  induction k with
  | zero =>
    intro i M hi h hk
    unfold wX5_sortByDay_2
    refine ⟨(inRof ⟨by omega, by omega⟩), ?_⟩
    rw [if_neg (by omega)]
    exact hk M (fun _ _ => rfl) (fun d hd => h d (by omega))
  | succ k ih =>
    intro i M hi h hk
    unfold wX5_sortByDay_2
    refine ⟨(inRof ⟨by omega, by omega⟩), ?_⟩
    rw [if_pos (by omega)]
    refine ⟨⟨by omega, by omega⟩, ih (i + 1) _ (by omega) (fun d hd => ?_) (fun M' k1 k2 => hk M' (fun c hc => by rw [k1 c hc, up_cell hc]) k2)⟩
    by_cases q : d = i
    · rw [q, up_eq]
    · rw [up_nei (by omega)]; exact h d (by omega)
theorem b_sort (h : BkR M B) (hnt : Nt M B s) (hS : Lgs B s S) (hSn : S < 16777216) (hk : ∀ M', (∀ c : Nat, c ≠ 94 → M' c = M c) → Ctx M' B s S → kv M') : Bv (wX5_sortByDay (S : Int) M) kv := by
  have n3 := h.1.2.2.2
  apply Bv.of; unfold wX5_sortByDay
  refine ⟨121, l_sd2 120 0 M (by omega) (fun d hd => by omega) (fun M1 k1 k2 => ?_)⟩
  unfold wX5_sortByDay_21
  have h1 : BkR M1 B := BkR_congr (fun c h1 h2 i _ _ => by rw [k1 c (by omega)]) (fun _ _ _ => rfl) h
  obtain ⟨N, hN⟩ := Int.eq_ofNat_of_zero_le n3.2.1
  have hN' : B 724 = (N : Int) := hN
  refine ⟨N + 1, l_sd34 (N := N) hS hSn hN' (by omega) N 0 M1 (by omega) h1 (fun d hd => k2 d hd) (fun M2 g1 g2 => hk M2 (fun c hc => by rw [g1 c hc, k1 c hc]) ⟨BkR_congr (fun c h1 h2 i _ _ => by rw [g1 c (by omega)]) (fun _ _ _ => rfl) h1, (hnt.fr (fun c c1 c2 => by rw [g1 c (by omega), k1 c (by omega)])), g2⟩)⟩
/-! back -/
def SBf (M : Mm) (B : Int → Int) (s : Int) (S e0 : Nat) : Prop := (∀ e : Nat, e0 ≤ e → e < 120 → Um (bwB B s S (119 - e)).1 (bwB B s S (119 - e)).2.1 (bwB B s S (119 - e)).2.2 (M 95 (e : Int)) ∧ M 97 (e : Int) = zvd (bwB B s S (119 - e))) ∧ ∀ e : Nat, e < e0 → M 97 (e : Int) = 100000000
def FrK (M M' : Mm) : Prop := ∀ c : Nat, c ≠ 91 → c ≠ 92 → c ≠ 93 → c ≠ 95 → c ≠ 97 → M' c = M c
theorem FrK.refl : FrK M M := fun _ _ _ _ _ _ => rfl
theorem FrK.trans {M2 : Mm} (h1 : FrK M M') (h2 : FrK M' M2) : FrK M M2 := fun c a b d e f => (h2 c a b d e f).trans (h1 c a b d e f)
theorem FrS.toK (h : FrS M M') : FrK M M' := fun c a b d _ _ => h c a b d
theorem FrS.sbf {e0 : Nat} (f : FrS M M') (h : SBf M B s S e0) : SBf M' B s S e0 := by
  unfold SBf
  rw [f 95 (by decide) (by decide) (by decide), f 97 (by decide) (by decide) (by decide)]
  exact h
theorem l_sb65 {Q : Int → Mm → Prop} {k44 : Int → Mm → Prop} {d : Nat} (hd : d < 120) (hS : Lgs B s S) (hc : Ctx M B s S) (hb : 0 ≤ t.1 ∧ t.2.1 ≤ 1000) (h : SL M t n) (hn : n + pcB (onp B S (d : Int)) 24 ≤ 24) (hu : (bwB B s S (119 - d)).1 = t.1 ∧ (bwB B s S (119 - d)).2.1 = t.2.1 ∧ ∀ z, t.1 ≤ z → z ≤ t.2.1 → (bwB B s S (119 - d)).2.2 z = (adc t (co B S d)).2.2 z) (hf : SBf M B s S (d + 1)) (hk : ∀ M', FrK M M' → SL M' (bwB B s S (119 - d)) (n + pcB (onp B S (d : Int)) 24) → SBf M' B s S d → k44 ((d : Int) + -1) M') : wX5_sweepBack_65 Q k44 (d : Int) M := by
  unfold wX5_sweepBack_65
  refine b_addLogs hd hc.1 hc.2.1 hS hb hn (hc.2.2 d hd) h (fun M1 f1 h1 => ?_)
  have h1 : SL M1 (bwB B s S (119 - d)) (n + pcB (onp B S (d : Int)) 24) := h1.congr hu.1 hu.2.1 hu.2.2
  have hf1 := f1.sbf hf
  refine s_bot h1 hn (fun u hu => ?_)
  have vl := h1.val
  have hne := h1.ne
  have hbb := hb
  rw [vl.1, vl.2]
  refine ⟨⟨by omega, by omega⟩, (inRof ⟨by omega, by omega⟩), ?_⟩
  have fin : ∀ x : Int, x = zvd (bwB B s S (119 - d)) → k44 ((d : Int) + -1) (up (up M1 95 (d : Int) u) 97 (d : Int) x) := by
    intro x hx
    refine hk _ (f1.toK.trans (fun c _ _ _ q1 q2 => by rw [up_cell q2, up_cell q1])) (h1.frame (by rw [up_cell (by decide), up_cell (by decide)]) (by rw [up_cell (by decide), up_cell (by decide)]) (by rw [up_cell (by decide), up_cell (by decide)])) ⟨fun e e1 e2 => ?_, fun e e1 => ?_⟩
    · by_cases q : e = d
      · rw [q, up_ne (by decide), up_eq, up_eq]
        exact ⟨hu, hx⟩
      · rw [up_ne (by decide), up_nei (by omega), up_nei (by omega), up_ne (by decide)]
        exact hf1.1 e (by omega) e2
    · rw [up_nei (by omega), up_ne (by decide)]
      exact hf1.2 e (by omega)
  by_cases q : (bwB B s S (119 - d)).1 = 0
  · rw [if_pos q]
    refine fin _ ?_
    unfold zvd
    rw [if_pos (by omega), q]
  · rw [if_neg q]
    refine fin _ ?_
    unfold zvd
    rw [if_neg (by omega)]
end Swp
