/-! ===== the model's reader of proofs ===== -/
def mayR (g : Nat → Nat) (x : Nat) : Nat → Nat → Nat → Nat
  | 0, _, v => v
  | m + 1, j, v => if x.testBit j = true then mayR g x m (j + 1) (v &&& g j) else mayR g x m (j + 1) v
section Mrd
variable {b : Nat → Int} {n : Nat} {g : Nat → Nat} {wt : Nat → Int} {W : Int} {U fr O us x p : Nat} {kv : Mm → Prop} {kk : Int → Mm → Prop}
theorem mayR_bit {i : Nat} : ∀ (m j v : Nat), (mayR g x m j v).testBit i = true ↔ v.testBit i = true ∧ ∀ k, j ≤ k → k < j + m → x.testBit k = true → (g k).testBit i = true
  | 0, j, v => ⟨fun h => ⟨h, fun k h1 h2 => by omega⟩, fun h => h.1⟩
  | m + 1, j, v => by
    unfold mayR
    by_cases c : x.testBit j = true
    · rw [if_pos c, mayR_bit m (j + 1) (v &&& g j), Nat.testBit_and, Bool.and_eq_true]
      constructor
      · rintro ⟨⟨h1, h2⟩, h3⟩
        refine ⟨h1, fun k k1 k2 k3 => ?_⟩
        by_cases e : k = j
        · subst e; exact h2
        · exact h3 k (by omega) (by omega) k3
      · rintro ⟨h1, h2⟩
        exact ⟨⟨h1, h2 j (by omega) (by omega) c⟩, fun k k1 k2 k3 => h2 k (by omega) (by omega) k3⟩
    · rw [if_neg c, mayR_bit m (j + 1) v]
      constructor
      · rintro ⟨h1, h3⟩
        refine ⟨h1, fun k k1 k2 k3 => ?_⟩
        by_cases e : k = j
        · subst e; exact absurd k3 c
        · exact h3 k (by omega) (by omega) k3
      · rintro ⟨h1, h2⟩
        exact ⟨h1, fun k k1 k2 k3 => h2 k (by omega) (by omega) k3⟩
theorem mayR_lt : ∀ (m j v : Nat), v < 16777216 → mayR g x m j v < 16777216
  | 0, _, _, h => h
  | m + 1, j, v, h => by
    have := @Nat.and_le_left v (g j)
    unfold mayR
    split
    · exact mayR_lt m (j + 1) _ (by omega)
    · exact mayR_lt m (j + 1) v h
theorem may_lg (hE : evn g U) (hf : fr < 16777216) (hU : subs fr U) (hx : x < 16777216) (hs : subs x fr) : lg b n (mayR g x 24 0 (sd fr x)) p ↔ lg b n (sd fr x) p ∧ sd x (g (va b n p).toNat) = 0 := by
  constructor
  · rintro ⟨h1, h2, h3⟩
    rw [mayR_bit] at h3
    have hv := ((sd_bit hf).mp h3.1).1
    refine ⟨⟨h1, h2, h3.1⟩, ?_⟩
    apply Nat.eq_of_testBit_eq
    intro i
    rw [Nat.zero_testBit, ← Bool.not_eq_true, sd_bit hx]
    rintro ⟨z1, z2⟩
    exact z2 (hE.1 i _ (hU i (hs i z1)) (hU _ hv) (h3.2 i (by omega) (by have := bit_lt hx z1; omega) z1))
  · rintro ⟨⟨h1, h2, h3⟩, h4⟩
    have hv := ((sd_bit hf).mp h3).1
    refine ⟨h1, h2, mayR_bit _ _ _ |>.mpr ⟨h3, fun k k1 k2 k3 => ?_⟩⟩
    exact hE.1 _ k (hU _ hv) (hU k (hs k k3)) (sd_zero hx h4 k3)
theorem pop_in {l : Nat} (hl : l < 24) (hn : ¬ x.testBit l = true) : popc (x ||| 2 ^ l) = popc x + 1 := by
  have h := SF_in (f := one) hl hn
  have e1 := one_pop (T := x ||| 2 ^ l) 24
  have e2 := one_pop (T := x) 24
  have h1 : one l = 1 := rfl
  unfold SF at h
  rw [e1, e2, h1] at h
  unfold popc
  omega
theorem pop_full (hx : x < 16777216) (h : popc x = 24) {i : Nat} (hi : i < 24) : x.testBit i = true := by
  by_cases c : x.testBit i = true
  · exact c
  · exfalso
    have e : ∀ j, (2 ^ 24 - 1).testBit j = true ↔ j < 24 := fun j => by rw [Nat.testBit_two_pow_sub_one, decide_eq_true_eq]
    have := pcR_less (A := x) (C := 2 ^ 24 - 1) (l := i) (fun j hj => (e j).mpr (bit_lt hx hj)) ((e i).mpr hi) c 24 hi
    have h2 := popc_le (n := 2 ^ 24 - 1)
    unfold popc at h h2
    omega
theorem FrN.gm {M M' : Mm} (h : FrN M M') (hg : Gm M g wt U) : Gm M' g wt U := hg.fr (h.1 110 (by decide)) (h.1 103 (by decide))
theorem FrN.s31 {M M' : Mm} (h : FrN M M') : M' 102 31 = M 102 31 := h.2 31 (by decide) (by decide)
theorem l_m73 {M : Mm} {Q : Mm → Prop} {k5 : Int → Int → Mm → Prop} {k46 : Int → Int → Int → Mm → Prop} {v1 v3 v4 v6 : Int} (hg : Gm M g wt U) (hx : x < 16777216) : ∀ (m j v : Nat), j + m = 24 → v < 16777216 → wX12_leafOf_109 Q k5 k46 v1 v3 v4 (x : Int) v6 (mayR g x m j v : Nat) M → wX12_leafOf_73 Q k5 k46 v1 v3 v4 (x : Int) v6 (m + 1) (v : Int) (j : Int) M := by
  intro m
  induction m with
  | zero =>
    intro j v hj hv hk
    unfold wX12_leafOf_73
    refine ⟨(inRof ⟨by omega, by omega⟩), ?_⟩
    rw [if_neg (by omega)]
    exact hk
  | succ m ih =>
    intro j v hj hv hk
    unfold wX12_leafOf_73
    refine ⟨(inRof ⟨by omega, by omega⟩), ?_⟩
    rw [if_pos (by omega)]
    have hb := bit01 (n := x) (j := j) (by omega) (by omega)
    have hgj := hg.1 j (by omega)
    have hgl := hgj.2
    unfold mayR at hk
    by_cases c : x.testBit j = true
    · rw [if_pos (hb.1.mpr c), hgj.1, landN (by omega) (by omega)]
      rw [if_pos c] at hk
      have := @Nat.and_le_left v (g j)
      exact ⟨⟨by omega, by omega⟩, ih (j + 1) _ (by omega) (by omega) hk⟩
    · rw [if_neg (fun z => c (hb.1.mp z))]
      rw [if_neg c] at hk
      exact ih (j + 1) v (by omega) hv hk
theorem l_mg1 {M : Mm} {Q : Mm → Prop} {k5 : Int → Int → Mm → Prop} {v4 : Int} {f : Nat} (hO : O < 16777216) (hus : us < 16777216) (hOU : subs O U) (hx : x < 16777216) (hxU : subs x U) (hp : p ≤ n) (hg : Gm M g wt U) (hb : BM M b n) (ht : TM M b n p) (hgd : M 102 30 = -1) (h1 : lg b n (mayR g x 24 0 (sd (sd O us) x)) p → ∀ M', FrN M M' → BM M' b n → TM M' b n (nx b n p) → Bd (wX12_takes 44 M') (fun r M17 => wX12_leafOf_46 Q k5 (O : Int) (us : Int) v4 f ((x ||| 2 ^ (va b n p).toNat : Nat) : Int) (mxR wt (x ||| 2 ^ (va b n p).toNat) 24) r M17)) (h0 : ¬ lg b n (mayR g x 24 0 (sd (sd O us) x)) p → ∀ M', FrD M M' → M' 102 30 = (p : Int) → Q M') : wX12_leafOf_46 Q k5 (O : Int) (us : Int) v4 (f + 1) (x : Int) (mxR wt x 24) 1 M := by
  have m0 := mxR_nonneg (f := wt) (x := x) 24
  have m1 := mxR_le (f := wt) (x := x) (C := 100) (by omega) 24 (fun i _ hi => (hg.2.1 i (hxU i hi)).2.2)
  unfold wX12_leafOf_46
  refine i_good1 hgd ⟨inR1, ?_⟩
  rw [if_neg (show ¬ (1 : Int) = 0 by decide), andnotN hO hus, andnotN sd_lt hx]
  refine ⟨25, l_m73 hg hx 24 0 (sd (sd O us) x) rfl sd_lt ?_⟩
  have ml := mayR_lt (g := g) (x := x) 24 0 (sd (sd O us) x) sd_lt
  unfold wX12_leafOf_109
  refine b_aLog ml hb hp hgd ht (fun c M1 f1 hb1 ht1 => ?_) (fun c M1 f1 e1 => ?_)
  · have hv := vl_lt c.2.1
    have hO' := ((sd_bit hO).mp ((sd_bit sd_lt).mp ((mayR_bit _ _ _).mp c.2.2).1).1).1
    have hw := (f1.gm hg).2.1 _ (hOU _ hO')
    have hp2 := pow24 hv.1
    have h1 := h1 c M1 f1 hb1 ht1
    rw [mx_in, if_pos hv.1] at h1
    generalize (va b n p).toNat = l at *
    refine ⟨(inRof ⟨by omega, by omega⟩), ?_⟩
    rw [if_neg (by omega), shl1 (by omega), lorN (by omega) (by omega)]
    refine b_logAt (x := 507 + 9 * (l : Int)) (by omega) (by omega) (by omega) ?_
    rw [hw.1]
    refine ⟨(inRof ⟨by omega, by omega⟩), (inRof ⟨by omega, by omega⟩), ?_⟩
    by_cases q : wt l ≤ mxR wt x 24
    · rw [if_pos q]
      rw [show max (mxR wt x 24) (wt l) = mxR wt x 24 by omega] at h1
      exact h1
    · rw [if_neg q]
      refine b_logAt (x := 507 + 9 * (l : Int)) (by omega) (by omega) (by omega) ?_
      rw [hw.1]
      rw [show max (mxR wt x 24) (wt l) = wt l by omega] at h1
      exact h1
  · refine ⟨(inRl (by decide)), ?_⟩
    rw [if_pos rfl]
    exact h0 c M1 f1 e1
theorem l_mg {Q : Mm → Prop} {k5 : Int → Int → Mm → Prop} {v4 : Int} (hE : evn g U) (hO : O < 16777216) (hus : us < 16777216) (hOU : subs O U) : ∀ (k x p : Nat) (M : Mm), popc x + k = 24 → p ≤ n → x < 16777216 → subs x (sd O us) → Gm M g wt U → BM M b n → TM M b n p → M 102 30 = -1 → ((rgR b n g (sd O us) k x p).1 ≠ 0 → ∀ M', FrN M M' → BM M' b n → TM M' b n (rgR b n g (sd O us) k x p).2 → k5 ((us ||| (rgR b n g (sd O us) k x p).1 : Nat) : Int) (v4 + mxR wt (rgR b n g (sd O us) k x p).1 24) M') → ((rgR b n g (sd O us) k x p).1 = 0 → ∀ M', FrD M M' → M' 102 30 = ((rgR b n g (sd O us) k x p).2 : Nat) → Q M' ∧ ∀ u a, k5 u a M') → wX12_leafOf_46 Q k5 (O : Int) (us : Int) v4 (k + 2) (x : Int) (mxR wt x 24) 1 M := by
  have hsU : subs (sd O us) U := sub_sd hO hOU
  intro k
  induction k with
  | zero =>
    intro x p M hk24 hp hx hs hg hb ht hgd h1 h0
    refine l_mg1 (b := b) (n := n) hO hus hOU hx (fun i hi => hsU i (hs i hi)) hp hg hb ht hgd (fun c => ?_) (fun c M1 f1 e1 => (h0 rfl M1 f1 e1).1)
    exfalso
    have hv := vl_lt c.2.1
    have := ((sd_bit sd_lt).mp ((mayR_bit _ _ _).mp c.2.2).1).2
    exact this (pop_full hx (by omega) hv.1)
  | succ k ih =>
    intro x p M hk24 hp hx hs hg hb ht hgd h1 h0
    have n1 := (nx_range (b := b) hp).2
    have n2 := (nx_range (b := b) n1).2
    unfold rgR at h1 h0
    refine l_mg1 (b := b) (n := n) hO hus hOU hx (fun i hi => hsU i (hs i hi)) hp hg hb ht hgd (fun c M1 f1 hb1 ht1 => ?_) (fun c M1 f1 e1 => ?_)
    · have c' := (may_lg hE sd_lt hsU hx hs).mp c
      rw [if_pos c'] at h1 h0
      have hv := vl_lt c.2.1
      have hlx := (sd_bit sd_lt).mp c'.1.2.2
      have g1 := f1.good hgd
      refine b_takes1 (by omega) hb1 n1 g1 ht1 (fun c3 M2 f2 hb2 ht2 => ?_) (fun c3 => ?_)
      · rw [if_pos c3] at h1 h0
        have f12 := f1.trans f2
        exact ih _ _ M2 (by rw [pop_in hv.1 hlx.2]; omega) n2 (or_lt hx hv.1) (sub_or hs hlx.1) (f12.gm hg) hb2 ht2 (f12.good hgd) (fun z M3 f3 => h1 z M3 (f12.trans f3)) (fun z M3 f3 => h0 z M3 (f12.toD.trans f3))
      · rw [if_neg c3] at h1 h0
        have hxl := or_lt hx hv.1
        unfold wX12_leafOf_46
        refine i_good1 g1 ⟨inR0, ?_⟩
        rw [if_pos rfl]
        unfold wX12_leafOf_170
        rw [lorN (by omega) (by omega)]
        refine b_need1 (by omega) hb1 n1 g1 ht1 (fun c4 M2 f2 hb2 ht2 => ?_) (fun c4 M2 f2 e2 => ?_)
        · rw [if_pos c4] at h1
          refine h1 ?_ M2 (f1.trans f2) hb2 ht2
          intro z
          have z2 : (x ||| 2 ^ (va b n p).toNat).testBit (va b n p).toNat = true := orb.mpr (Or.inr rfl)
          have z3 : x ||| 2 ^ (va b n p).toNat = 0 := z
          rw [z3, Nat.zero_testBit] at z2
          exact absurd z2 (by decide)
        · rw [if_neg c4] at h0
          exact (h0 rfl M2 (f1.toD.trans f2) e2).2 _ _
    · rw [if_neg (fun z => c ((may_lg hE sd_lt hsU hx hs).mpr z))] at h0
      exact (h0 rfl M1 f1 e1).1
theorem l_m5bad {M : Mm} {Q : Mm → Prop} {f : Nat} {v1 u a : Int} (hf : Fl M) (hq : Q M) : wX12_leafOf_5 Q v1 (f + 1) u a M := by
  unfold wX12_leafOf_5
  refine i_good0 hf ?_
  unfold wX12_leafOf_191
  exact i_good0 hf (b_need0 hf hq)
theorem l_m191 {M : Mm} {Q : Mm → Prop} {a : Int} (hO : O < 16777216) (hus : us < 16777216) (hOU : subs O U) (hp : p ≤ n) (hW : inR W) (ha : 0 ≤ a ∧ a ≤ 10000) (hg : Gm M g wt U) (hb : BM M b n) (ht : TM M b n p) (hgd : M 102 30 = -1) (h31 : M 102 31 = W) (h1 : (rfin b n wt W (sd O us) a p).1 = true → ∀ M', FrN M M' → BM M' b n → TM M' b n (rfin b n wt W (sd O us) a p).2 → Q M') (h0 : (rfin b n wt W (sd O us) a p).1 = false → ∀ M', FrD M M' → M' 102 30 = ((rfin b n wt W (sd O us) a p).2 : Nat) → Q M') : wX12_leafOf_191 Q (O : Int) (us : Int) a M := by
  have hsU : subs (sd O us) U := sub_sd hO hOU
  have hw := W_range (wt := wt) hsU (fun i hi => (hg.2.1 i hi).2)
  have h400 := hb.2.1
  unfold wX12_leafOf_191
  refine i_good1 hgd ?_
  rw [andnotN hO hus]
  refine b_mw hg hsU sd_lt ?_
  rw [h31]
  refine ⟨(inRof ⟨by omega, by omega⟩), hW, ?_⟩
  unfold rfin at h1 h0
  by_cases c : a + SF wt (sd O us) ≤ W
  · rw [if_pos c]
    rw [if_pos c] at h1 h0
    refine b_need1 (by omega) hb hp hgd ht (fun c2 M1 f1 hb1 ht1 => ?_) (fun c2 M1 f1 e1 => ?_)
    · rw [if_pos c2] at h1; exact h1 rfl M1 f1 hb1 ht1
    · rw [if_neg c2] at h0; exact h0 rfl M1 f1 e1
  · rw [if_neg c]
    rw [if_neg c] at h0
    refine b_faults1 hgd ht (fun M1 f1 e1 => ?_)
    have hf : Fl M1 := by unfold Fl; rw [e1]; omega
    exact b_need0 hf (h0 rfl M1 f1 e1)
theorem l_ms1 {M : Mm} {Q : Mm → Prop} {f : Nat} {a : Int} (hE : evn g U) (hO : O < 16777216) (hus : us < 16777216) (hOU : subs O U) (hp : p ≤ n) (hg : Gm M g wt U) (hb : BM M b n) (ht : TM M b n p) (hgd : M 102 30 = -1) (h93 : tk b n p = 93 → wX12_leafOf_191 Q (O : Int) (us : Int) a M) (hgo : tk b n p ≠ 93 → (rgR b n g (sd O us) 24 0 p).1 ≠ 0 → ∀ M', FrN M M' → BM M' b n → TM M' b n (rgR b n g (sd O us) 24 0 p).2 → wX12_leafOf_5 Q (O : Int) (f + 1) ((us ||| (rgR b n g (sd O us) 24 0 p).1 : Nat) : Int) (a + mxR wt (rgR b n g (sd O us) 24 0 p).1 24) M') (hbad : tk b n p ≠ 93 → (rgR b n g (sd O us) 24 0 p).1 = 0 → ∀ M', FrD M M' → M' 102 30 = ((rgR b n g (sd O us) 24 0 p).2 : Nat) → Q M') : wX12_leafOf_5 Q (O : Int) (f + 2) (us : Int) a M := by
  have h400 := hb.2.1
  have hs0 : subs 0 (sd O us) := fun i h => by rw [Nat.zero_testBit] at h; exact absurd h (by decide)
  have go : tk b n p ≠ 93 → ∃ m, wX12_leafOf_46 Q (wX12_leafOf_5 Q (O : Int) (f + 1)) (O : Int) (us : Int) a m 0 0 1 M := by
    intro c
    have sp := rgR_spec (b := b) (g := g) (fr := sd O us) sd_lt 24 0 p hp (by omega) hs0
    refine ⟨26, ?_⟩
    have := l_mg (b := b) (n := n) (Q := Q) (k5 := wX12_leafOf_5 Q (O : Int) (f + 1)) (v4 := a) (wt := wt) hE hO hus hOU 24 0 p M (by decide) hp (by omega) hs0 hg hb ht hgd (hgo c) (fun z M1 f1 e1 => by
      have q := hbad c z M1 f1 e1
      have hf : Fl M1 := by unfold Fl; rw [e1]; omega
      exact ⟨q, fun u a => l_m5bad hf q⟩)
    have e : mxR wt 0 24 = 0 := by
      have z : ∀ m : Nat, mxR wt 0 m = 0 := by
        intro m
        induction m with
        | zero => rfl
        | succ m ih => unfold mxR; rw [Nat.zero_testBit, if_neg (by decide)]; exact ih
      exact z 24
    rw [e] at this
    exact this
  unfold wX12_leafOf_5
  refine i_good1 hgd ?_
  rw [ht.1, hb.1]
  refine ⟨(inRof ⟨by omega, by omega⟩), (inRof ⟨by omega, by omega⟩), ?_⟩
  by_cases q : p < n
  · have hbp := hb.2.2 p q
    rw [if_pos (by omega), hbp.1]
    refine ⟨⟨by omega, by omega⟩, ?_⟩
    by_cases c2 : b p < 128
    · rw [if_pos c2]
      refine ⟨(inRof ⟨by omega, by omega⟩), ?_⟩
      by_cases c3 : b p = 93
      · rw [if_pos c3]
        exact h93 (by unfold tk; rw [if_pos q, if_neg (by omega)]; exact c3)
      · rw [if_neg c3]
        refine go ?_
        unfold tk; rw [if_pos q]
        split <;> omega
    · rw [if_neg c2]
      refine ⟨(inRof ⟨by omega, by omega⟩), ?_⟩
      rw [if_neg (by omega)]
      refine go ?_
      unfold tk; rw [if_pos q]
      split <;> omega
  · rw [if_neg (by omega)]
    refine go ?_
    unfold tk; rw [if_neg q]
    omega
theorem pop_less {x : Nat} (hf : fr < 16777216) (hx : x < 16777216) (h0 : x ≠ 0) (hs : subs x fr) : popc (sd fr x) < popc fr := by
  have : ∃ l, x.testBit l = true := by
    by_cases c : ∃ l, x.testBit l = true
    · exact c
    · exfalso
      apply h0
      apply Nat.eq_of_testBit_eq
      intro i
      rw [Nat.zero_testBit, ← Bool.not_eq_true]
      exact fun z => c ⟨i, z⟩
  obtain ⟨l, hl⟩ := this
  exact pcR_less (fun i hi => ((sd_bit hf).mp hi).1) (hs l hl) (fun z => ((sd_bit hf).mp z).2 hl) 24 (bit_lt hx hl)
theorem l_ms {Q : Mm → Prop} (hW : inR W) (hE : evn g U) (hO : O < 16777216) (hOU : subs O U) : ∀ (k us p : Nat) (a : Int) (M : Mm), us < 16777216 → popc (sd O us) ≤ k → p ≤ n → (0 ≤ a ∧ a + 100 * (k : Int) ≤ 10000) → Gm M g wt U → BM M b n → TM M b n p → M 102 30 = -1 → M 102 31 = W → ((rsR b n g wt W k (sd O us) a p).1 = true → ∀ M', FrN M M' → BM M' b n → TM M' b n (rsR b n g wt W k (sd O us) a p).2 → Q M') → ((rsR b n g wt W k (sd O us) a p).1 = false → ∀ M', FrD M M' → M' 102 30 = ((rsR b n g wt W k (sd O us) a p).2 : Nat) → Q M') → wX12_leafOf_5 Q (O : Int) (k + 2) (us : Int) a M := by
  intro k
  induction k with
  | zero =>
    intro us p a M hus hpc hp ha hg hb ht hgd h31 h1 h0
    unfold rsR at h1 h0
    have emp : ∀ i, i < 24 → ¬ (sd O us).testBit i = true := popc_zero 24 (by unfold popc at hpc; omega)
    have er : tk b n p ≠ 93 → rgR b n g (sd O us) 24 0 p = (0, p) := by
      intro _
      unfold rgR
      rw [if_neg]
      rintro ⟨⟨c1, c2, c3⟩, -⟩
      exact emp _ (vl_lt c2).1 ((sd_bit sd_lt).mp c3).1
    refine l_ms1 hE hO hus hOU hp hg hb ht hgd (fun c => l_m191 hO hus hOU hp hW (by omega) hg hb ht hgd h31 h1 h0) (fun c z => ?_) (fun c z M1 f1 e1 => ?_)
    · rw [er c] at z; exact absurd rfl z
    · rw [er c] at e1
      have e : rfin b n wt W (sd O us) a p = (false, p) := by
        unfold rfin
        rw [if_neg c]
        split <;> rfl
      rw [e] at h0
      exact h0 rfl M1 f1 e1
  | succ k ih =>
    intro us p a M hus hpc hp ha hg hb ht hgd h31 h1 h0
    unfold rsR at h1 h0
    have hs0 : subs 0 (sd O us) := fun i h => by rw [Nat.zero_testBit] at h; exact absurd h (by decide)
    have sp := rgR_spec (b := b) (g := g) (fr := sd O us) sd_lt 24 0 p hp (by omega) hs0
    refine l_ms1 hE hO hus hOU hp hg hb ht hgd (fun c => ?_) (fun c z M1 f1 hb1 ht1 => ?_) (fun c z M1 f1 e1 => ?_)
    · rw [if_pos c] at h1 h0
      exact l_m191 hO hus hOU hp hW (by omega) hg hb ht hgd h31 h1 h0
    · rw [if_neg c, if_neg z] at h1 h0
      have hsU : subs (rgR b n g (sd O us) 24 0 p).1 U := fun i hi => hOU i ((sd_bit hO).mp (sp.2.2 i hi)).1
      have m0 := mxR_nonneg (f := wt) (x := (rgR b n g (sd O us) 24 0 p).1) 24
      have m1 := mxR_le (f := wt) (x := (rgR b n g (sd O us) 24 0 p).1) (C := 100) (by omega) 24 (fun i _ hi => (hg.2.1 i (hsU i hi)).2.2)
      have pl := pop_less (fr := sd O us) sd_lt sp.2.1 z sp.2.2
      rw [← sd_or hO] at h1 h0 pl
      exact ih _ _ _ M1 (or_lt2 hus sp.2.1) (by omega) sp.1 (by omega) (f1.gm hg) hb1 ht1 (f1.good hgd) (by rw [f1.s31]; exact h31) (fun z M3 f3 => h1 z M3 (f1.trans f3)) (fun z M3 f3 => h0 z M3 (f1.toD.trans f3))
    · rw [if_neg c, if_pos z] at h0
      exact h0 rfl M1 f1 e1
theorem b_mpbad {M : Mm} {f : Nat} {v1 v2 v3 : Int} (hf : Fl M) (hk : kv M) : Bv (wX12_proofOf (f + 1) v1 v2 v3 M) kv := by
  apply Bv.of; unfold wX12_proofOf
  exact i_good0 hf hk
theorem b_mp (hW : inR W) (hE : evn g U) : ∀ (f O d p : Nat) (v : Int) (M : Mm) (kv : Mm → Prop), 31 ≤ f + d → O < 16777216 → subs O U → p ≤ n → (1 ≤ d ∧ d ≤ 25 ∧ 0 ≤ v ∧ v ≤ 100 * (d : Int)) → Gm M g wt U → BM M b n → TM M b n p → M 102 30 = -1 → M 102 31 = W → ((rpR b n g wt W f O v d p).1 = true → ∀ M', FrN M M' → BM M' b n → TM M' b n (rpR b n g wt W f O v d p).2 → kv M') → ((rpR b n g wt W f O v d p).1 = false → ∀ M', FrD M M' → M' 102 30 = ((rpR b n g wt W f O v d p).2 : Nat) → kv M') → Bv (wX12_proofOf f (O : Int) v ((d : Int) - 1) M) kv := by
  intro f
  induction f with
  | zero => intro O d p v M kv hfd hO hU hp hv; omega
  | succ f ih =>
    intro O d p v M kv hfd hO hU hp hv hg hb ht hgd h31 h1 h0
    have h400 := hb.2.1
    have n1 := (nx_range (b := b) hp).2
    have n2 := (nx_range (b := b) n1).2
    unfold rpR at h1 h0
    have flt : ∀ (M1 : Mm) (q : Nat), q ≤ n → M1 102 30 = (q : Int) → Fl M1 := fun M1 q hq e => by unfold Fl; rw [e]; omega
    have other : tk b n p ≠ 91 → tk b n p ≠ 40 → Bv (wX12_faults M) (fun M6 => kv M6) := by
      intro c1 c2
      have e : (if 24 < d then ((false, p) : Bool × Nat) else (false, p)) = (false, p) := by split <;> rfl
      rw [if_neg c1, if_neg c2, e] at h0
      exact b_faults1 hgd ht (fun M1 f1 e1 => h0 rfl M1 f1 e1)
    have s70 : ∀ v4 : Int, (v4 = 0 ∧ tk b n p = 91) ∨ (v4 = 1 ∧ tk b n p = 40) → wX12_proofOf_70 kv (wX12_proofOf f) (O : Int) v ((d : Int) - 1) v4 M := by
      intro v4 hv4
      unfold wX12_proofOf_70
      refine ⟨(inRof ⟨by omega, by omega⟩), ?_⟩
      by_cases c0 : 24 < d
      · rw [if_pos (by omega)]
        rw [if_pos c0] at h0
        exact b_faults1 hgd ht (fun M1 f1 e1 => h0 rfl M1 f1 e1)
      rw [if_neg (by omega)]
      rw [if_neg c0] at h1 h0
      refine b_nextT hb hp ht (fun M1 f1 hb1 ht1 => ?_)
      rcases hv4 with ⟨e4, c1⟩ | ⟨e4, c1⟩
      · subst e4
        refine ⟨inR0, ?_⟩
        rw [if_pos rfl]
        rw [if_pos c1] at h1 h0
        apply Bv.of; unfold wX12_leafOf
        have es : sd O 0 = O := by
          apply Nat.eq_of_testBit_eq
          intro i
          rw [Bool.eq_iff_iff, sd_bit hO, Nat.zero_testBit]
          exact ⟨fun z => z.1, fun z => ⟨z, by decide⟩⟩
        have pl := popc_le (n := sd O 0)
        rw [← es] at h1 h0
        have := l_ms (b := b) (n := n) (g := g) (wt := wt) (Q := kv) hW hE hO hU 24 0 (nx b n p) v M1 (by omega) pl n1 (by omega) (f1.gm hg) hb1 ht1 (f1.good hgd) (by rw [f1.s31]; exact h31) (fun z M3 f3 => h1 z M3 (f1.trans f3)) (fun z M3 f3 => h0 z M3 (f1.toD.trans f3))
        exact ⟨26, this⟩
      · subst e4
        refine ⟨inR1, ?_⟩
        rw [if_neg (by decide)]
        rw [if_neg (by omega), if_pos c1] at h1 h0
        refine b_aLog hO hb1 n1 (f1.good hgd) ht1 (fun c3 M2 f2 hb2 ht2 => ?_) (fun c3 M2 f2 e2 => ?_)
        · rw [if_pos c3] at h1 h0
          have hv1 := vl_lt c3.2.1
          have f12 := f1.trans f2
          have hg2 := f12.gm hg
          have hw := hg2.2.1 _ (hU _ c3.2.2)
          have hp2 := pow24 hv1.1
          generalize (va b n (nx b n p)).toNat = l at *
          have hgl := hg2.1 l hv1.1
          refine ⟨(inRof ⟨by omega, by omega⟩), ?_⟩
          rw [if_neg (by omega), hgl.1, shl1 (by omega), lorN (by omega) (by omega), andnotN hO (or_lt2 hp2 hgl.2), andnotN hO hp2, sd_or hO]
          refine ⟨⟨by omega, by omega⟩, b_logAt (x := 507 + 9 * (l : Int)) (by omega) (by omega) (by omega) ?_⟩
          rw [hw.1, show (d : Int) - 1 + 1 = ((d + 1 : Nat) : Int) - 1 by omega]
          have i1 := rpR_le (b := b) (g := g) (wt := wt) (W := W) f (sd (sd O (2 ^ l)) (g l)) (v + wt l) (d + 1) (nx b n (nx b n p)) n2 sd_lt
          refine ih _ (d + 1) _ (v + wt l) M2 _ (by omega) sd_lt (sub_sd sd_lt (sub_sd hO hU)) n2 (by omega) hg2 hb2 ht2 (f12.good hgd) (by rw [f12.s31]; exact h31) (fun z M3 f3 hb3 ht3 => ?_) (fun z M3 f3 e3 => ?_)
          · rw [rqa_t z] at h1 h0
            have f123 := f12.trans f3
            have i2 := rpR_le (b := b) (g := g) (wt := wt) (W := W) f (sd O (2 ^ l)) v (d + 1) _ i1 sd_lt
            unfold rqb at h1 h0
            refine ih _ (d + 1) _ v M3 _ (by omega) sd_lt (sub_sd hO hU) i1 (by omega) (f123.gm hg) hb3 ht3 (f123.good hgd) (by rw [f123.s31]; exact h31) (fun z2 M4 f4 hb4 ht4 => ?_) (fun z2 M4 f4 e4 => ?_)
            · rw [if_pos z2] at h1 h0
              have f1234 := f123.trans f4
              refine b_need1 (by omega) hb4 i2 (f1234.good hgd) ht4 (fun c5 M5 f5 hb5 ht5 => ?_) (fun c5 M5 f5 e5 => ?_)
              · rw [if_pos c5] at h1
                exact h1 rfl M5 (f1234.trans f5) hb5 ht5
              · rw [if_neg c5] at h0
                exact h0 rfl M5 (f1234.toD.trans f5) e5
            · rw [if_neg (by rw [z2]; decide)] at h0
              exact b_need0 (flt M4 _ i2 e4) (h0 z2 M4 (f123.toD.trans f4) e4)
          · rw [rqa_f (by rw [z]; decide)] at h0
            have fl := flt M3 _ i1 e3
            obtain ⟨f', ef⟩ : ∃ f', f = f' + 1 := ⟨f - 1, by omega⟩
            subst ef
            exact b_mpbad fl (b_need0 fl (h0 z M3 (f12.toD.trans f3) e3))
        · rw [if_neg c3] at h0
          refine ⟨(inRl (by decide)), ?_⟩
          rw [if_pos rfl]
          exact h0 rfl M2 (f1.toD.trans f2) e2
    apply Bv.of; unfold wX12_proofOf
    refine i_good1 hgd ?_
    rw [ht.1, hb.1]
    refine ⟨(inRof ⟨by omega, by omega⟩), (inRof ⟨by omega, by omega⟩), ?_⟩
    have s1 : tk b n p = 40 → wX12_proofOf_38 kv (wX12_proofOf f) (O : Int) v ((d : Int) - 1) 1 M := by
      intro c
      unfold wX12_proofOf_38
      refine ⟨inR1, ?_⟩
      rw [if_neg (by decide)]
      exact s70 1 (Or.inr ⟨rfl, c⟩)
    have s0 : tk b n p ≠ 40 → wX12_proofOf_38 kv (wX12_proofOf f) (O : Int) v ((d : Int) - 1) 0 M := by
      intro c
      unfold wX12_proofOf_38
      refine ⟨inR0, ?_⟩
      rw [if_pos rfl, ht.1, hb.1]
      refine ⟨(inRof ⟨by omega, by omega⟩), (inRof ⟨by omega, by omega⟩), ?_⟩
      by_cases q : p < n
      · have hbp := hb.2.2 p q
        rw [if_pos (by omega), hbp.1]
        refine ⟨⟨by omega, by omega⟩, ?_⟩
        by_cases c2 : b p < 128
        · rw [if_pos c2]
          refine ⟨(inRof ⟨by omega, by omega⟩), ?_⟩
          by_cases c3 : b p = 91
          · rw [if_pos c3]
            exact s70 0 (Or.inl ⟨rfl, by unfold tk; rw [if_pos q, if_neg (by omega)]; exact c3⟩)
          · rw [if_neg c3]
            refine other ?_ c
            unfold tk; rw [if_pos q]
            split <;> omega
        · rw [if_neg c2]
          refine ⟨(inRof ⟨by omega, by omega⟩), ?_⟩
          rw [if_neg (by omega)]
          refine other ?_ c
          unfold tk; rw [if_pos q]
          split <;> omega
      · rw [if_neg (by omega)]
        refine other ?_ c
        unfold tk; rw [if_neg q]
        omega
    by_cases q : p < n
    · have hbp := hb.2.2 p q
      rw [if_pos (by omega), hbp.1]
      refine ⟨⟨by omega, by omega⟩, ?_⟩
      by_cases c2 : b p < 128
      · rw [if_pos c2]
        refine ⟨(inRof ⟨by omega, by omega⟩), ?_⟩
        by_cases c3 : b p = 40
        · rw [if_pos c3]
          exact s1 (by unfold tk; rw [if_pos q, if_neg (by omega)]; exact c3)
        · rw [if_neg c3]
          refine s0 ?_
          unfold tk; rw [if_pos q]
          split <;> omega
      · rw [if_neg c2]
        refine ⟨(inRof ⟨by omega, by omega⟩), ?_⟩
        rw [if_neg (by omega)]
        refine s0 ?_
        unfold tk; rw [if_pos q]
        split <;> omega
    · rw [if_neg (by omega)]
      refine s0 ?_
      unfold tk; rw [if_neg q]
      omega
end Mrd
