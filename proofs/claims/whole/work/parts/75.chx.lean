/-! ===== the class's Graph and Chooser ===== -/
theorem shl30 : ∀ n : Nat, n < 101 → shlL (n : Int) 30 = (n : Int) * 1073741824 := by decide +kernel
theorem shl23 : ∀ l : Nat, l < 24 → shlL 1 (23 - (l : Int)) = ((2 ^ (23 - l) : Nat) : Int) := by decide +kernel
def key (wt : Nat → Int) (l : Nat) : Int := wt l * 1073741824 + 16777216 + ((2 ^ (23 - l) : Nat) : Int)
/-- graph and worths as the class holds them, for the logs of U -/
def Gx (M : Mm) (g : Nat → Nat) (wt : Nat → Int) (U : Nat) : Prop := (∀ a : Nat, a < 24 → M 84 (a : Int) = (g a : Nat) ∧ g a < 16777216) ∧ (∀ l : Nat, U.testBit l = true → M 20 (l : Int) = wt l ∧ 1 ≤ wt l ∧ wt l ≤ 100) ∧ U < 16777216
section Chx
variable {M : Mm} {kk : Int → Mm → Prop} {kv : Mm → Prop} {g : Nat → Nat} {wt : Nat → Int} {U O T : Nat}
theorem Gx.fr {M' : Mm} (h : Gx M g wt U) (h1 : M' 84 = M 84) (h2 : M' 20 = M 20) : Gx M' g wt U := by unfold Gx; rw [h1, h2]; exact h
theorem key_range (h : Gx M g wt U) {l : Nat} (hl : U.testBit l = true) : 0 ≤ key wt l ∧ key wt l ≤ 107500000000 := by
  have := h.2.1 l hl
  have hp : 2 ^ (23 - l) ≤ 2 ^ 23 := Nat.pow_le_pow_right (by decide) (by omega)
  unfold key
  generalize 2 ^ (23 - l) = p at *
  omega
theorem b_key (h : Gx M g wt U) {l : Nat} (hl : U.testBit l = true) (hk : kk (key wt l) M) : Bd (wX1_keyOf (l : Int) M) kk := by
  have hw := h.2.1 l hl
  have l24 := bit_lt h.2.2 hl
  apply Bd.of; unfold wX1_keyOf
  obtain ⟨n, hn⟩ : ∃ n : Nat, wt l = (n : Int) := ⟨(wt l).toNat, by omega⟩
  unfold key at hk
  rw [hw.1]
  rw [hn] at hk hw ⊢
  rw [shl30 n (by omega), shl23 l l24]
  exact ⟨⟨by omega, by omega⟩, (inRof ⟨by omega, by omega⟩), hk⟩
theorem l_gp {Q : Int → Mm → Prop} (h : Gx M g wt U) (hO : O < 16777216) : ∀ (n i x : Nat), i + n = 24 → x < 16777216 → Q (gpR g O n i x : Nat) M → wX2_groupFrom_9 Q (O : Int) (n + 1) (x : Int) (i : Int) M := by
  intro n
  induction n with
  | zero =>
    intro i x hi hx hk
    unfold wX2_groupFrom_9
    refine ⟨(inRof ⟨by omega, by omega⟩), ?_⟩
    rw [if_neg (by omega)]
    exact hk
  | succ n ih =>
    intro i x hi hx hk
    unfold wX2_groupFrom_9
    refine ⟨(inRof ⟨by omega, by omega⟩), ?_⟩
    rw [if_pos (by omega)]
    have hb := bit01 (n := O) (j := i) (by omega) (by omega)
    have hg := h.1 i (by omega)
    have hp := pow24 (show i < 24 by omega)
    unfold gpR at hk
    by_cases c1 : O.testBit i = true
    · rw [if_pos (hb.1.mpr c1), hg.1, andnotN hx hg.2]
      refine ⟨⟨by omega, by omega⟩, ?_⟩
      by_cases c2 : sd x (g i) = 0
      · rw [if_pos (by omega)]
        rw [if_pos ⟨c1, c2⟩] at hk
        rw [shl1 (by omega), lorN (by omega) (by omega)]
        exact ih (i + 1) _ (by omega) (or_lt hx (by omega)) hk
      · rw [if_neg (by omega)]
        rw [if_neg (fun z => c2 z.2)] at hk
        exact ih (i + 1) _ (by omega) hx hk
    · rw [if_neg (fun z => c1 (hb.1.mp z))]
      rw [if_neg (fun z => c1 z.1)] at hk
      exact ih (i + 1) _ (by omega) hx hk
theorem b_gp (h : Gx M g wt U) (hO : O < 16777216) {i : Nat} (hi : i < 24) (hk : kk (gp g O i : Nat) M) : Bd (wX2_groupFrom (i : Int) (O : Int) M) kk := by
  apply Bd.of; unfold wX2_groupFrom
  rw [shl1 (by omega)]
  exact ⟨23 - i + 1, l_gp h hO (23 - i) (i + 1) (2 ^ i) (by omega) (pow24 hi) hk⟩
theorem b_max64 {a b : Int} (ha : inR64 a) (hb : inR64 b) (h : kk (max a b) M) : Bd (wJ9_max_f86c9 a b M) kk := by
  apply Bd.of; unfold wJ9_max_f86c9
  refine ⟨ha, hb, ?_⟩
  by_cases c : a < b
  · rw [if_pos (cmp_lt.mpr c)]; rw [show max a b = b by omega] at h; exact h
  · rw [if_neg (fun z => c (cmp_lt.mp z))]; rw [show max a b = a by omega] at h; exact h
theorem l_gk {Q : Int → Mm → Prop} (h : Gx M g wt U) (hT : subs T U) (hTl : T < 16777216) (hk : Q (mxR (key wt) T 24) M) : ∀ (n j : Nat), j + n = 24 → wX1_greatestKey_5 Q (T : Int) (n + 1) (mxR (key wt) T j) (j : Int) M := by
  intro n
  induction n with
  | zero =>
    intro j hj
    unfold wX1_greatestKey_5
    refine ⟨(inRof ⟨by omega, by omega⟩), ?_⟩
    rw [if_neg (by omega)]
    rw [show j = 24 by omega]
    exact hk
  | succ n ih =>
    intro j hj
    unfold wX1_greatestKey_5
    refine ⟨(inRof ⟨by omega, by omega⟩), ?_⟩
    rw [if_pos (by omega)]
    have hb := bit01 (n := T) (j := j) (by omega) (by omega)
    have ih := ih (j + 1) (by omega)
    unfold mxR at ih
    have m0 := mxR_nonneg (f := key wt) (x := T) j
    have m1 := mxR_le (f := key wt) (x := T) (C := 107500000000) (by omega) j (fun i _ hi => (key_range h (hT i hi)).2)
    by_cases c1 : T.testBit j = true
    · rw [if_pos (hb.1.mpr c1)]
      rw [if_pos c1] at ih
      have kr := key_range h (hT j c1)
      exact b_key h (hT j c1) (b_max64 ⟨by omega, by omega⟩ ⟨by omega, by omega⟩ ih)
    · rw [if_neg (fun z => c1 (hb.1.mp z))]
      rw [if_neg c1] at ih
      exact ih
theorem l_ak {Q : Int → Mm → Prop} (h : Gx M g wt U) (hT : subs T U) (hTl : T < 16777216) (hk : Q (SF (key wt) T) M) : ∀ (n j : Nat), j + n = 24 → wX1_allKeys_5 Q (T : Int) (n + 1) (sumF (key wt) T j) (j : Int) M := by
  intro n
  induction n with
  | zero =>
    intro j hj
    unfold wX1_allKeys_5
    refine ⟨(inRof ⟨by omega, by omega⟩), ?_⟩
    rw [if_neg (by omega)]
    rw [show j = 24 by omega]
    exact hk
  | succ n ih =>
    intro j hj
    unfold wX1_allKeys_5
    refine ⟨(inRof ⟨by omega, by omega⟩), ?_⟩
    rw [if_pos (by omega)]
    have hb := bit01 (n := T) (j := j) (by omega) (by omega)
    have ih := ih (j + 1) (by omega)
    unfold sumF at ih
    by_cases c1 : T.testBit j = true
    · rw [if_pos (hb.1.mpr c1)]
      rw [if_pos c1] at ih
      exact b_key h (hT j c1) ih
    · rw [if_neg (fun z => c1 (hb.1.mp z))]
      rw [if_neg c1] at ih
      exact ih
theorem l_kb {Q : Int → Mm → Prop} (h : Gx M g wt U) (hE : evn g U) : ∀ (n j fr : Nat) (acc : Int), j + n = 24 → fr < 16777216 → subs fr U → Q (bnR (key wt) g n j fr acc) M → wX1_bound_7 Q (n + 1) (fr : Int) acc (j : Int) M := by
  intro n
  induction n with
  | zero =>
    intro j fr acc hj hl hs hk
    unfold wX1_bound_7
    refine ⟨(inRof ⟨by omega, by omega⟩), ?_⟩
    rw [if_neg (by omega)]
    exact hk
  | succ n ih =>
    intro j fr acc hj hl hs hk
    unfold wX1_bound_7
    refine ⟨(inRof ⟨by omega, by omega⟩), ?_⟩
    rw [if_pos (by omega)]
    have hb := bit01 (n := fr) (j := j) (by omega) (by omega)
    unfold bnR at hk
    by_cases c1 : fr.testBit j = true
    · rw [if_pos (hb.1.mpr c1)]
      rw [if_pos c1] at hk
      obtain ⟨g1, g2, g3, g4⟩ := gp_spec hE hs (show j < 24 by omega) c1
      refine b_gp h hl (by omega) ?_
      apply Bd.of; unfold wX1_greatestKey
      refine ⟨25, l_gk h (fun i hi => hs i (g3 i hi)) g1 ?_ 24 0 rfl⟩
      rw [andnotN hl g1]
      exact ih (j + 1) _ _ (by omega) sd_lt (fun l hl' => hs l ((sd_bit hl).mp hl').1) hk
    · rw [if_neg (fun z => c1 (hb.1.mp z))]
      rw [if_neg c1] at hk
      exact ih (j + 1) _ _ (by omega) hl hs hk
theorem l_bz {Q : Int → Mm → Prop} (h : Gx M g wt U) (hO : O < 16777216) (hk : Q (bz g O) M) : ∀ (n j : Nat), j + n = 24 → wX2_busiest_7 Q (O : Int) (n + 1) (bzR g O j).1 (bzR g O j).2 (j : Int) M := by
  intro n
  induction n with
  | zero =>
    intro j hj
    unfold wX2_busiest_7
    refine ⟨(inRof ⟨by omega, by omega⟩), ?_⟩
    rw [if_neg (by omega)]
    rw [show j = 24 by omega]
    exact hk
  | succ n ih =>
    intro j hj
    unfold wX2_busiest_7
    refine ⟨(inRof ⟨by omega, by omega⟩), ?_⟩
    rw [if_pos (by omega)]
    have hb := bit01 (n := O) (j := j) (by omega) (by omega)
    have hg := h.1 j (by omega)
    have ih := ih (j + 1) (by omega)
    have st : bzR g O (j + 1) = if bzC g O j ≤ (bzR g O j).2 then bzR g O j else ((j : Int), bzC g O j) := rfl
    rw [st] at ih
    have sp := (bzR_spec (g := g) (O := O) j).1
    have cr := bzC_range (g := g) (O := O) (i := j)
    have fin : wX2_busiest_40 Q (wX2_busiest_7 Q (O : Int) (n + 1)) (O : Int) (bzR g O j).1 (bzR g O j).2 (j : Int) (bzC g O j) M := by
      unfold wX2_busiest_40
      refine ⟨(inRof ⟨by omega, by omega⟩), (inRof ⟨by omega, by omega⟩), ?_⟩
      by_cases c2 : bzC g O j ≤ (bzR g O j).2
      · rw [if_pos c2]; rw [if_pos c2] at ih; exact ih
      · rw [if_neg c2]; rw [if_neg c2] at ih; exact ih
    by_cases c1 : O.testBit j = true
    · rw [if_pos (hb.1.mpr c1), hg.1, landN (by omega) (by omega)]
      have e : bzC g O j = (popc (g j &&& O) : Nat) := by unfold bzC; rw [if_pos c1]
      rw [e] at fin
      have l1 := Nat.and_le_left (n := g j) (m := O)
      exact ⟨⟨by omega, by omega⟩, b_bits (by omega) fin⟩
    · rw [if_neg (fun z => c1 (hb.1.mp z))]
      have e : bzC g O j = 0 := by unfold bzC; rw [if_neg c1]
      rw [e] at fin
      exact fin
theorem l_gw {Q : Int → Mm → Prop} (h : Gx M g wt U) (hT : subs T U) (hTl : T < 16777216) (hk : Q (mxR wt T 24) M) : ∀ (n j : Nat), j + n = 24 → wX2_greatestWorth_4 Q (T : Int) (n + 1) (mxR wt T j) (j : Int) M := by
  intro n
  induction n with
  | zero =>
    intro j hj
    unfold wX2_greatestWorth_4
    refine ⟨(inRof ⟨by omega, by omega⟩), ?_⟩
    rw [if_neg (by omega)]
    rw [show j = 24 by omega]
    exact hk
  | succ n ih =>
    intro j hj
    unfold wX2_greatestWorth_4
    refine ⟨(inRof ⟨by omega, by omega⟩), ?_⟩
    rw [if_pos (by omega)]
    have hb := bit01 (n := T) (j := j) (by omega) (by omega)
    have ih := ih (j + 1) (by omega)
    unfold mxR at ih
    have m0 := mxR_nonneg (f := wt) (x := T) j
    have m1 := mxR_le (f := wt) (x := T) (C := 100) (by omega) j (fun i _ hi => (h.2.1 i (hT i hi)).2.2)
    by_cases c1 : T.testBit j = true
    · rw [if_pos (hb.1.mpr c1)]
      rw [if_pos c1] at ih
      have kr := h.2.1 j (hT j c1)
      rw [kr.1]
      exact ⟨⟨by omega, by omega⟩, b_max (inRof ⟨by omega, by omega⟩) (inRof ⟨by omega, by omega⟩) ih⟩
    · rw [if_neg (fun z => c1 (hb.1.mp z))]
      rw [if_neg c1] at ih
      exact ih
theorem l_aw {Q : Int → Mm → Prop} (h : Gx M g wt U) (hT : subs T U) (hTl : T < 16777216) (hk : Q (SF wt T) M) : ∀ (n j : Nat), j + n = 24 → wX2_allWorth_4 Q (T : Int) (n + 1) (sumF wt T j) (j : Int) M := by
  intro n
  induction n with
  | zero =>
    intro j hj
    unfold wX2_allWorth_4
    refine ⟨(inRof ⟨by omega, by omega⟩), ?_⟩
    rw [if_neg (by omega)]
    rw [show j = 24 by omega]
    exact hk
  | succ n ih =>
    intro j hj
    unfold wX2_allWorth_4
    refine ⟨(inRof ⟨by omega, by omega⟩), ?_⟩
    rw [if_pos (by omega)]
    have hb := bit01 (n := T) (j := j) (by omega) (by omega)
    have ih := ih (j + 1) (by omega)
    unfold sumF at ih
    by_cases c1 : T.testBit j = true
    · rw [if_pos (hb.1.mpr c1), (h.2.1 j (hT j c1)).1]
      rw [if_pos c1] at ih
      exact ⟨⟨by omega, by omega⟩, ih⟩
    · rw [if_neg (fun z => c1 (hb.1.mp z))]
      rw [if_neg c1] at ih
      exact ih
theorem b_aw (h : Gx M g wt U) (hT : subs T U) (hTl : T < 16777216) (hk : kk (SF wt T) M) : Bd (wX2_allWorth (T : Int) M) kk := by
  apply Bd.of; unfold wX2_allWorth
  exact ⟨25, l_aw h hT hTl hk 24 0 rfl⟩
theorem b_gw (h : Gx M g wt U) (hT : subs T U) (hTl : T < 16777216) (hk : kk (mxR wt T 24) M) : Bd (wX2_greatestWorth (T : Int) M) kk := by
  apply Bd.of; unfold wX2_greatestWorth
  exact ⟨25, l_gw h hT hTl hk 24 0 rfl⟩
theorem b_bz (h : Gx M g wt U) (hO : O < 16777216) (hk : kk (bz g O) M) : Bd (wX2_busiest (O : Int) M) kk := by
  apply Bd.of; unfold wX2_busiest
  exact ⟨25, l_bz h hO hk 24 0 rfl⟩
theorem b_kb (h : Gx M g wt U) (hE : evn g U) (hO : subs O U) (hl : O < 16777216) (hk : kk (bnd (key wt) g O) M) : Bd (wX1_bound (O : Int) M) kk := by
  apply Bd.of; unfold wX1_bound
  exact ⟨25, l_kb h hE 24 0 O 0 rfl hl hO hk⟩
theorem b_ak (h : Gx M g wt U) (hO : subs O U) (hl : O < 16777216) (hk : kk (SF (key wt) O) M) : Bd (wX1_allKeys (O : Int) M) kk := by
  apply Bd.of; unfold wX1_allKeys
  exact ⟨25, l_ak h hO hl hk 24 0 rfl⟩
end Chx
