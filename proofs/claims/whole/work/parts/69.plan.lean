/-! ===== plan, judge ===== -/
def clR (mc : Int → Int) (t d : Nat) : Nat → Bool
  | 0 => false
  | n + 1 => clR mc t d n || (t.testBit n && decide (mc (n : Int) = (d : Int)))
def wzR (B : Int → Int) (s : Int) (cl : Nat → Bool) (F : Nat) (z0 : Int) : Nat → Int
  | 0 => if cl F = true then 0 else z0
  | n + 1 => if cl (F + n + 1) = true then 0 else if left B s (((F + n : Nat) : Int) + 1) = -1 then min (max (wzR B s cl F z0 n + byT B s ((F + n : Nat) : Int) 1) 0) 1000 else left B s (((F + n : Nat) : Int) + 1)
def wcR (B : Int → Int) (s : Int) (cl : Nat → Bool) (F : Nat) (z0 : Int) : Nat → Int
  | 0 => 0
  | n + 1 => (if cl (F + n) = true then wcR B s cl F z0 n + B 720 else wcR B s cl F z0 n) + skn B s ((F + n : Nat) : Int) (wzR B s cl F z0 n) * B 719
theorem clR_iff {mc : Int → Int} {t d : Nat} : ∀ n : Nat, clR mc t d n = true ↔ ∃ c : Nat, c < n ∧ t.testBit c = true ∧ mc (c : Int) = (d : Int)
  | 0 => ⟨fun h => absurd (show false = true from h) (by decide), fun ⟨c, h, _⟩ => by omega⟩
  | n + 1 => by
    have ih := clR_iff (mc := mc) (t := t) (d := d) n
    unfold clR
    rw [Bool.or_eq_true, Bool.and_eq_true, decide_eq_true_eq, ih]
    constructor
    · rintro (⟨c, h1, h2⟩ | ⟨h1, h2⟩)
      · exact ⟨c, by omega, h2⟩
      · exact ⟨n, by omega, h1, h2⟩
    · rintro ⟨c, h1, h2, h3⟩
      by_cases q : c = n
      · subst q; exact Or.inr ⟨h2, h3⟩
      · exact Or.inl ⟨c, by omega, h2, h3⟩
theorem and_pow_zero {t c : Nat} : 2 ^ c &&& t = 0 ↔ ¬ t.testBit c = true := by
  constructor
  · intro h q
    have : (2 ^ c &&& t).testBit c = true := by rw [Nat.testBit_and, q, Nat.testBit_two_pow_self]; rfl
    rw [h, Nat.zero_testBit] at this
    exact absurd this (by decide)
  · intro h
    apply Nat.eq_of_testBit_eq
    intro i
    rw [Nat.testBit_and, Nat.zero_testBit, Nat.testBit_two_pow]
    by_cases q : c = i
    · subst q
      rw [Bool.not_eq_true] at h
      rw [h, Bool.and_false]
    · rw [decide_eq_false q, Bool.false_and]
section Cost
variable {M : Mm} {k : Mm → Prop} {kk : Int → Mm → Prop} {a b c d e s w z : Int} {bb : Mm} {B : Int → Int} {t F N n : Nat} {cl : Nat → Bool}
theorem wzR_range (h : BkR bb B) {z0 : Int} (hz : 0 ≤ z0 ∧ z0 ≤ 1000) : ∀ j : Nat, 0 ≤ wzR B s cl F z0 j ∧ wzR B s cl F z0 j ≤ 1000
  | 0 => by unfold wzR; split <;> omega
  | j + 1 => by
    have ih := wzR_range h hz j
    have hl := left_range (s := s) (d := ((F + j : Nat) : Int) + 1) h
    unfold wzR
    split
    · omega
    · split <;> omega
theorem wcR_range (h : BkR bb B) (hs : 0 ≤ s ∧ s < B 721) {z0 : Int} (hz : 0 ≤ z0 ∧ z0 ≤ 1000) : ∀ j : Nat, 0 ≤ wcR B s cl F z0 j ∧ wcR B s cl F z0 j ≤ 9100000 * (j : Int)
  | 0 => ⟨by show (0 : Int) ≤ 0; omega, by show (0 : Int) ≤ 0; omega⟩
  | j + 1 => by
    have ih := wcR_range h hs hz j
    have r := skn_range (d := ((F + j : Nat) : Int)) h hs (wzR_range (s := s) (cl := cl) (F := F) h hz j)
    have p := h.2.1
    have pa := p.1
    have pb := p.2
    have m := mulb (a := skn B s ((F + j : Nat) : Int) (wzR B s cl F z0 j)) (b := B 719) (A := 9000) (B := 1000) r.1 r.2 (by omega) p.1.2.2 (by omega)
    have m0 : 0 ≤ skn B s ((F + j : Nat) : Int) (wzR B s cl F z0 j) * B 719 := Int.mul_nonneg r.1 p.1.2.1
    unfold wcR
    split <;> omega
/-- Z ahead of day F + j -/
def zpR (B : Int → Int) (s : Int) (cl : Nat → Bool) (F : Nat) (z0 : Int) (j : Nat) : Int := if j = 0 then z0 else wzR B s cl F z0 (j - 1)
theorem zpR_succ {z0 : Int} {j : Nat} : zpR B s cl F z0 (j + 1) = wzR B s cl F z0 j := rfl
theorem l_xwc {Q : Int → Mm → Prop} {z0 : Int} (h : BkR M B) (hs : 0 ≤ s ∧ s < B 721) (hn : NtA M B s) (hN : F + N ≤ 120) (hz : 0 ≤ z0 ∧ z0 ≤ 1000) (hcl : ∀ d : Nat, d < 120 → (landI (M 101 (d : Int)) (t : Int) = 0 ↔ ¬ cl d = true)) (hk : Q (wcR B s cl F z0 N) M) : ∀ (f j : Nat), j ≤ N → N - j < f → wX7_worstCost_26 Q (t : Int) (F : Int) ((F : Int) + (N : Int) - 1) f (wcR B s cl F z0 j) (zpR B s cl F z0 j) ((F : Int) + (j : Int)) M := by
  have pt := h.2.1
  have pa := pt.1
  have pb := pt.2
  intro f
  induction f with
  | zero => intro j h1 h2; omega
  | succ f ih =>
    intro j h1 h2
    unfold wX7_worstCost_26
    refine ⟨(inRof ⟨by omega, by omega⟩), (inRof ⟨by omega, by omega⟩), ?_⟩
    by_cases q : j < N
    · rw [if_pos (by omega)]
      have ih := ih (j + 1) (by omega) (by omega)
      have rz := wzR_range (s := s) (cl := cl) (F := F) h hz j
      have r := skn_range (d := ((F + j : Nat) : Int)) h hs rz
      have fin : ∀ zz : Int, 0 ≤ zz ∧ zz ≤ 1000 → wzR B s cl F z0 j = (if cl (F + j) = true then 0 else zz) → wX7_worstCost_91 Q (wX7_worstCost_26 Q (t : Int) (F : Int) ((F : Int) + (N : Int) - 1) f) (t : Int) (F : Int) ((F : Int) + (N : Int) - 1) (wcR B s cl F z0 j) zz ((F + j : Nat) : Int) M := by
        intro zz hzz hw
        unfold wX7_worstCost_91
        refine ⟨⟨by omega, by omega⟩, ?_⟩
        rw [zpR_succ, show (F : Int) + ((j + 1 : Nat) : Int) = ((F + j : Nat) : Int) + 1 by omega] at ih
        unfold wcR at ih
        by_cases c1 : cl (F + j) = true
        · rw [if_neg (fun x => (hcl (F + j) (by omega)).mp x c1)]
          rw [if_pos c1] at hw ih
          rw [hw] at ih r
          rw [pt.2.1]
          refine ⟨(inRof ⟨by omega, by omega⟩), ?_⟩
          unfold wX7_worstCost_117
          refine b_xskin h hs hn (by omega) (by omega) ?_
          rw [pt.1.1]
          exact ⟨(inRof ⟨by omega, by omega⟩), (inRof ⟨by omega, by omega⟩), ih⟩
        · rw [if_pos ((hcl (F + j) (by omega)).mpr c1)]
          rw [if_neg c1] at hw ih
          rw [hw] at ih r
          unfold wX7_worstCost_117
          refine b_xskin h hs hn (by omega) hzz ?_
          rw [pt.1.1]
          exact ⟨(inRof ⟨by omega, by omega⟩), (inRof ⟨by omega, by omega⟩), ih⟩
      refine ⟨(inRof ⟨by omega, by omega⟩), ?_⟩
      rw [show (F : Int) + (j : Int) = ((F + j : Nat) : Int) by omega]
      cases j with
      | zero =>
        rw [if_pos (by omega)]
        exact fin z0 hz rfl
      | succ u =>
        rw [if_neg (by omega)]
        have t1 := hn.2 ((F + (u + 1) : Nat) : Int) (by omega) (by omega)
        have t0 := hn.2 ((F + u : Nat) : Int) (by omega) (by omega)
        have cr := cut_range (B := B) (s := s) (d := ((F + (u + 1) : Nat) : Int))
        have ru := wzR_range (s := s) (cl := cl) (F := F) h hz u
        have rb := byT_range (s := s) (d := ((F + u : Nat) : Int)) h
        have hl := left_range (s := s) (d := ((F + u : Nat) : Int) + 1) h
        rw [t1.2.2.2.2.2, t1.2.2.2.2.1, show ((F + (u + 1) : Nat) : Int) - 1 = ((F + u : Nat) : Int) by omega, t0.2.2.2.1, zpR_succ]
        rw [show ((F + (u + 1) : Nat) : Int) = ((F + u : Nat) : Int) + 1 by omega] at cr fin ⊢
        refine ⟨⟨by omega, by omega⟩, (inRof ⟨by omega, by omega⟩), ?_⟩
        have ew : wzR B s cl F z0 (u + 1) = if cl (F + u + 1) = true then 0 else if left B s (((F + u : Nat) : Int) + 1) = -1 then min (max (wzR B s cl F z0 u + byT B s ((F + u : Nat) : Int) 1) 0) 1000 else left B s (((F + u : Nat) : Int) + 1) := rfl
        by_cases c1 : left B s (((F + u : Nat) : Int) + 1) = -1
        · have ec : cutD B s (((F + u : Nat) : Int) + 1) = 0 := by unfold cutD; rw [if_pos c1]
          rw [if_pos ec]
          rw [if_pos c1] at ew
          refine ⟨⟨by omega, by omega⟩, b_max (inRof ⟨by omega, by omega⟩) inR0 (b_min (inRof ⟨by omega, by omega⟩) (inRl (by decide)) (fin _ (by omega) ew))⟩
        · have ec : ¬ cutD B s (((F + u : Nat) : Int) + 1) = 0 := by unfold cutD; rw [if_neg c1]; decide
          have ep : capD B s (((F + u : Nat) : Int) + 1) = left B s (((F + u : Nat) : Int) + 1) := by unfold capD; rw [if_neg c1]
          rw [if_neg ec, ep]
          rw [if_neg c1] at ew
          exact fin _ (by omega) ew
    · rw [if_neg (by omega)]
      rw [show j = N by omega]
      exact hk
theorem l_call {Q : Int → Mm → Prop} {D : Nat} (hD : D < 120) (ht : t < 2147483648) (hn : M 102 47 = (n : Int)) (h7 : n ≤ 7) (hr : ∀ c : Nat, c < n → inR (M 125 (c : Int))) (h1 : clR (M 125) t D n = true → Q 1 M) (h0 : ¬ clR (M 125) t D n = true → Q 0 M) : ∀ (f j : Nat), j ≤ n → n - j < f → ¬ clR (M 125) t D j = true → wX12_isCall_2 Q (t : Int) (D : Int) f (j : Int) M := by
  intro f
  induction f with
  | zero => intro j g1 g2; omega
  | succ f ih =>
    intro j g1 g2 hj
    unfold wX12_isCall_2
    rw [hn]
    refine ⟨(inRof ⟨by omega, by omega⟩), (inRof ⟨by omega, by omega⟩), ?_⟩
    by_cases q : j < n
    · rw [if_pos (by omega)]
      have hb := bit01 (n := t) (j := j) (by omega) ht
      by_cases c1 : t.testBit j = true
      · rw [if_pos (hb.1.mpr c1)]
        refine ⟨⟨by omega, by omega⟩, hr j q, (inRof ⟨by omega, by omega⟩), ?_⟩
        by_cases c2 : M 125 (j : Int) = (D : Int)
        · rw [if_pos c2]
          exact h1 ((clR_iff n).mpr ⟨j, q, c1, c2⟩)
        · rw [if_neg c2]
          refine ih (j + 1) (by omega) (by omega) (fun x => ?_)
          unfold clR at x
          rw [Bool.or_eq_true, Bool.and_eq_true, decide_eq_true_eq] at x
          rcases x with x | x
          · exact hj x
          · exact c2 x.2
      · rw [if_neg (fun x => c1 (hb.1.mp x))]
        refine ih (j + 1) (by omega) (by omega) (fun x => ?_)
        unfold clR at x
        rw [Bool.or_eq_true, Bool.and_eq_true] at x
        rcases x with x | x
        · exact hj x
        · exact c1 x.1
    · rw [if_neg (by omega)]
      rw [show j = n by omega] at hj
      exact h0 hj
theorem i_call {D : Nat} {A C : Mm → Prop} (hD : D < 120) (ht : t < 2147483648) (hn : M 102 47 = (n : Int)) (h7 : n ≤ 7) (hr : ∀ c : Nat, c < n → inR (M 125 (c : Int))) (h1 : clR (M 125) t D n = true → C M) (h0 : ¬ clR (M 125) t D n = true → A M) : Bd (wX12_isCall (t : Int) (D : Int) M) (fun r M => inR r ∧ (if r = 0 then A M else C M)) := by
  apply Bd.of; unfold wX12_isCall
  exact ⟨8, l_call hD ht hn h7 hr (fun q => tI1 (h1 q)) (fun q => tI0 (h0 q)) 8 0 (by omega) (by omega) (fun x => absurd (show false = true from x) (by decide))⟩
theorem l_mwc {Q : Int → Mm → Prop} {z0 : Int} (h : BkR bb (M 103)) (hs : 0 ≤ s ∧ s < M 103 721) (hN : F + N ≤ 120) (hz : 0 ≤ z0 ∧ z0 ≤ 1000) (ht : t < 2147483648) (hn : M 102 47 = (n : Int)) (h7 : n ≤ 7) (hr : ∀ c : Nat, c < n → inR (M 125 (c : Int))) (hk : Q (wcR (M 103) s (fun d => clR (M 125) t d n) F z0 N) M) : ∀ (f j : Nat), j ≤ N → N - j < f → wX12_costOf_10 Q s (t : Int) (F : Int) ((F : Int) + (N : Int) - 1) f (wcR (M 103) s (fun d => clR (M 125) t d n) F z0 j) (zpR (M 103) s (fun d => clR (M 125) t d n) F z0 j) ((F : Int) + (j : Int)) M := by
  have pt := h.2.1
  have pa := pt.1
  have pb := pt.2
  have n0 := h.1.1
  intro f
  induction f with
  | zero => intro j h1 h2; omega
  | succ f ih =>
    intro j h1 h2
    unfold wX12_costOf_10
    refine ⟨(inRof ⟨by omega, by omega⟩), (inRof ⟨by omega, by omega⟩), ?_⟩
    by_cases q : j < N
    · rw [if_pos (by omega)]
      have ih := ih (j + 1) (by omega) (by omega)
      have rz := wzR_range (s := s) (cl := fun d => clR (M 125) t d n) (F := F) h hz j
      have r := skn_range (d := ((F + j : Nat) : Int)) h hs rz
      have fin : ∀ zz : Int, 0 ≤ zz ∧ zz ≤ 1000 → wzR (M 103) s (fun d => clR (M 125) t d n) F z0 j = (if clR (M 125) t (F + j) n = true then 0 else zz) → wX12_costOf_85 Q (wX12_costOf_10 Q s (t : Int) (F : Int) ((F : Int) + (N : Int) - 1) f) s (t : Int) (F : Int) ((F : Int) + (N : Int) - 1) (wcR (M 103) s (fun d => clR (M 125) t d n) F z0 j) zz ((F + j : Nat) : Int) M := by
        intro zz hzz hw
        unfold wX12_costOf_85
        rw [zpR_succ, show (F : Int) + ((j + 1 : Nat) : Int) = ((F + j : Nat) : Int) + 1 by omega] at ih
        unfold wcR at ih
        refine i_call (by omega) ht hn h7 hr (fun c1 => ?_) (fun c1 => ?_)
        · rw [if_pos c1] at hw ih
          rw [hw] at ih r
          refine ⟨(inRof ⟨by omega, by omega⟩), ?_⟩
          unfold wX12_costOf_112
          exact b_skn h hs (inRof ⟨by omega, by omega⟩) (by omega) ⟨(inRof ⟨by omega, by omega⟩), (inRof ⟨by omega, by omega⟩), ih⟩
        · rw [if_neg c1] at hw ih
          rw [hw] at ih r
          unfold wX12_costOf_112
          exact b_skn h hs (inRof ⟨by omega, by omega⟩) hzz ⟨(inRof ⟨by omega, by omega⟩), (inRof ⟨by omega, by omega⟩), ih⟩
      rw [show (F : Int) + (j : Int) = ((F + j : Nat) : Int) by omega]
      refine b_left h (inRof ⟨by omega, by omega⟩) (inRof ⟨by omega, by omega⟩) ⟨(inRof ⟨by omega, by omega⟩), ?_⟩
      cases j with
      | zero =>
        rw [if_pos (by omega)]
        exact fin z0 hz rfl
      | succ u =>
        rw [if_neg (by omega)]
        have ru := wzR_range (s := s) (cl := fun d => clR (M 125) t d n) (F := F) h hz u
        have rb := byT_range (s := s) (d := ((F + u : Nat) : Int)) h
        have hl := left_range (s := s) (d := ((F + u : Nat) : Int) + 1) h
        rw [show ((F + (u + 1) : Nat) : Int) - 1 = ((F + u : Nat) : Int) by omega, zpR_succ]
        rw [show ((F + (u + 1) : Nat) : Int) = ((F + u : Nat) : Int) + 1 by omega] at fin ⊢
        refine ⟨(inRof ⟨by omega, by omega⟩), ?_⟩
        have ew : wzR (M 103) s (fun d => clR (M 125) t d n) F z0 (u + 1) = if clR (M 125) t (F + u + 1) n = true then 0 else if left (M 103) s (((F + u : Nat) : Int) + 1) = -1 then min (max (wzR (M 103) s (fun d => clR (M 125) t d n) F z0 u + byT (M 103) s ((F + u : Nat) : Int) 1) 0) 1000 else left (M 103) s (((F + u : Nat) : Int) + 1) := rfl
        by_cases c1 : left (M 103) s (((F + u : Nat) : Int) + 1) = -1
        · rw [if_pos c1]
          rw [if_pos c1] at ew
          refine b_byT h (inRof ⟨by omega, by omega⟩) (inRof ⟨by omega, by omega⟩) (Or.inr rfl) ?_
          unfold wX12_costOf_56
          refine ⟨(inRof ⟨by omega, by omega⟩), ?_⟩
          generalize wzR (M 103) s (fun d => clR (M 125) t d n) F z0 u + byT (M 103) s ((F + u : Nat) : Int) 1 = x at *
          by_cases c2 : x < 0
          · rw [if_pos c2]
            rw [show min (max x 0) 1000 = 0 by omega] at ew
            exact fin _ (by omega) ew
          · rw [if_neg c2]
            by_cases c3 : x ≤ 1000
            · rw [if_pos c3]
              rw [show min (max x 0) 1000 = x by omega] at ew
              exact fin _ (by omega) ew
            · rw [if_neg c3]
              rw [show min (max x 0) 1000 = 1000 by omega] at ew
              exact fin _ (by omega) ew
        · rw [if_neg c1]
          rw [if_neg c1] at ew
          unfold wX12_costOf_56
          refine ⟨(inRof ⟨by omega, by omega⟩), ?_⟩
          rw [if_neg (by omega), if_pos (by omega)]
          exact fin _ (by omega) ew
    · rw [if_neg (by omega)]
      rw [show j = N by omega]
      exact hk
/-- the calls, as both hold them -/
def Cal (M : Mm) (n : Nat) (mc : Int → Int) : Prop := M 100 1 = (n : Int) ∧ n ≤ 7 ∧ (∀ t d : Nat, t < 128 → d < 120 → (landI (M 101 (d : Int)) (t : Int) = 0 ↔ ¬ clR mc t d n = true))
theorem Inv.cal (hI : Inv M) : ∃ n : Nat, Cal M n (M 125) ∧ M 102 47 = (n : Int) ∧ n ≤ 7 ∧ ∀ c : Nat, c < n → inR (M 125 (c : Int)) := by
  obtain ⟨k1, k2, k3, k4⟩ := hI.2.2.2.2.2.2.2.2.2.2
  obtain ⟨n, hn⟩ := Int.eq_ofNat_of_zero_le k1.1
  have hn' : M 100 1 = (n : Int) := hn
  refine ⟨n, ⟨hn', by omega, fun t d ht hd => ?_⟩, by omega, by omega, fun c hc => ?_⟩
  · rw [clR_iff]
    rcases k4 (d : Int) (by omega) (by omega) with ⟨e, q⟩ | ⟨c, c1, c2, c3⟩
    · rw [e]
      have : landI (0 : Int) (t : Int) = ((0 &&& t : Nat) : Int) := landN (n := 0) (by decide) (by omega)
      rw [this, Nat.zero_and]
      exact ⟨fun _ ⟨c, x1, x2, x3⟩ => q (c : Int) (by omega) (by omega) x3, fun _ => rfl⟩
    · have hp : 2 ^ c < 2 ^ 7 := Nat.pow_lt_pow_right (by decide) (by omega)
      have e : M 101 (d : Int) = ((2 ^ c : Nat) : Int) := by rw [c3]; exact (Int.natCast_pow 2 c).symm
      rw [e, landN (by omega) (by omega)]
      constructor
      · intro x
        have x : 2 ^ c &&& t = 0 := by omega
        rintro ⟨c', y1, y2, y3⟩
        have : c' = c := by
          by_cases z : c' = c
          · exact z
          · exfalso
            rcases Nat.lt_or_gt_of_ne z with z | z
            · exact k3 (c' : Int) (c : Int) (by omega) (by omega) (by omega) (by omega)
            · exact k3 (c : Int) (c' : Int) (by omega) (by omega) (by omega) (by omega)
        subst this
        exact and_pow_zero.mp x y2
      · intro x
        have : 2 ^ c &&& t = 0 := and_pow_zero.mpr (fun y => x ⟨c, by omega, y, c2⟩)
        omega
  · have := k2 (c : Int) (by omega) (by omega)
    exact (inRof ⟨by omega, by omega⟩)
end Cost
