/-! ===== quarrel, quarrels ===== -/
/-- the first pair behind `c` others, and how many there are -/
def qIn (p : Nat → Nat → Bool) (w : Int) (a : Nat) : Nat → Nat → Int → Int × Int
  | 0, _, c => (-1, c)
  | k + 1, b, c => if p a b = true then (if c = w then (24 * (a : Int) + (b : Int), c) else qIn p w a k (b + 1) (c + 1)) else qIn p w a k (b + 1) c
def qOut (p : Nat → Nat → Bool) (w : Int) : Nat → Nat → Int → Int × Int
  | 0, _, c => (-1, c)
  | k + 1, a, c => if (qIn p w a (24 - a) a c).1 = -1 then qOut p w k (a + 1) (qIn p w a (24 - a) a c).2 else qIn p w a (24 - a) a c
theorem qIn_range {p : Nat → Nat → Bool} {w : Int} {a : Nat} : ∀ (k b : Nat) (c : Int), 0 ≤ c → (c ≤ (qIn p w a k b c).2 ∧ (qIn p w a k b c).2 ≤ c + (k : Int)) ∧ -1 ≤ (qIn p w a k b c).1 ∧ (qIn p w a k b c).1 ≤ 24 * (a : Int) + (b : Int) + (k : Int)
  | 0, b, c, hc => by show (c ≤ c ∧ c ≤ c + ((0 : Nat) : Int)) ∧ (-1 : Int) ≤ -1 ∧ (-1 : Int) ≤ _; omega
  | k + 1, b, c, hc => by
    have i1 := qIn_range (p := p) (w := w) (a := a) k (b + 1) (c + 1) (by omega)
    have i2 := qIn_range (p := p) (w := w) (a := a) k (b + 1) c hc
    unfold qIn
    by_cases q : p a b = true
    · rw [if_pos q]
      by_cases q2 : c = w
      · rw [if_pos q2]; show (c ≤ c ∧ c ≤ _) ∧ -1 ≤ 24 * (a : Int) + (b : Int) ∧ 24 * (a : Int) + (b : Int) ≤ _; omega
      · rw [if_neg q2]; omega
    · rw [if_neg q]; omega
theorem qOut_range {p : Nat → Nat → Bool} {w : Int} : ∀ (k a : Nat) (c : Int), 0 ≤ c → a + k ≤ 24 → (c ≤ (qOut p w k a c).2 ∧ (qOut p w k a c).2 ≤ c + 24 * (k : Int)) ∧ -1 ≤ (qOut p w k a c).1 ∧ (qOut p w k a c).1 ≤ 1000
  | 0, a, c, hc, _ => by show (c ≤ c ∧ c ≤ c + 24 * ((0 : Nat) : Int)) ∧ (-1 : Int) ≤ -1 ∧ (-1 : Int) ≤ _; omega
  | k + 1, a, c, hc, hk => by
    have i1 := qIn_range (p := p) (w := w) (a := a) (24 - a) a c hc
    have i2 := qOut_range (p := p) (w := w) k (a + 1) (qIn p w a (24 - a) a c).2 (by omega) (by omega)
    unfold qOut
    by_cases q : (qIn p w a (24 - a) a c).1 = -1
    · rw [if_pos q]; omega
    · rw [if_neg q]; omega
theorem qIn_all {p : Nat → Nat → Bool} {a n : Nat} : ∀ (k b : Nat) (c : Int), 0 ≤ c → (∀ i, i < k → (n / 2 ^ b).testBit i = p a (b + i)) → qIn p (-1) a k b c = (-1, c + (pcR (n / 2 ^ b) k : Nat))
  | 0, b, c, _, _ => by show (-1, c) = ((-1 : Int), c + ((0 : Nat) : Int)); rw [show c + ((0 : Nat) : Int) = c by omega]
  | k + 1, b, c, hc, hp => by
    have e1 : ∀ i, (n / 2 ^ (b + 1)).testBit i = (n / 2 ^ b).testBit (i + 1) := by
      intro i
      rw [Nat.testBit_div_two_pow, Nat.testBit_div_two_pow, show i + (b + 1) = i + 1 + b by omega]
    have i1 := qIn_all (p := p) (a := a) (n := n) k (b + 1) (c + 1) (by omega) (fun i hi => by rw [e1, hp (i + 1) (by omega), show b + 1 + i = b + (i + 1) by omega])
    have i2 := qIn_all (p := p) (a := a) (n := n) k (b + 1) c hc (fun i hi => by rw [e1, hp (i + 1) (by omega), show b + 1 + i = b + (i + 1) by omega])
    have pa := pcR_add (n / 2 ^ b) 1 k
    have e2 : n / 2 ^ b / 2 ^ 1 = n / 2 ^ (b + 1) := by rw [Nat.div_div_eq_div_mul, ← Nat.pow_add]
    rw [e2, Nat.add_comm 1 k] at pa
    have p1 : pcR (n / 2 ^ b) 1 = if (n / 2 ^ b).testBit 0 = true then 1 else 0 := by
      show 0 + (if (n / 2 ^ b).testBit 0 = true then 1 else 0) = _
      rw [Nat.zero_add]
    have h0 := hp 0 (by omega)
    rw [Nat.add_zero] at h0
    rw [h0] at p1
    unfold qIn
    by_cases q : p a b = true
    · rw [if_pos q, if_neg (by omega), i1]
      rw [if_pos q] at p1
      rw [pa, p1]
      exact congrArg _ (by omega)
    · rw [if_neg q, i2]
      rw [if_neg q] at p1
      rw [pa, p1]
      exact congrArg _ (by omega)
section Pairs
variable {M : Mm} {k : Mm → Prop} {kk : Int → Mm → Prop} {s : Int} {B : Int → Int} {S : Nat} {bb : Mm}
theorem pcR_high {n j : Nat} (hn : n < 2 ^ j) : ∀ k, pcR n (j + k) = pcR n j
  | 0 => rfl
  | k + 1 => by
    have ih := pcR_high hn k
    show pcR n (j + k) + (if n.testBit (j + k) = true then 1 else 0) = _
    have : n.testBit (j + k) = false := Nat.testBit_lt_two_pow (Nat.lt_of_lt_of_le hn (Nat.pow_le_pow_right (by decide) (by omega)))
    rw [this, if_neg (by decide), ih]
    rfl
theorem foe_shift {a : Nat} (ha : a < 24) : popc (foe B s S a / 2 ^ a) = pcR (foe B s S a / 2 ^ a) (24 - a) := by
  have hl : foe B s S a / 2 ^ a < 2 ^ (24 - a) := by
    rw [Nat.div_lt_iff_lt_mul (Nat.two_pow_pos a), ← Nat.pow_add, show 24 - a + a = 24 by omega]
    exact foe_lt
  have := pcR_high hl a
  rw [show 24 - a + a = 24 by omega] at this
  exact this
theorem l_prs {Q : Int → Mm → Prop} (hg : ∀ a : Nat, a < 24 → M 84 (a : Int) = (foe B s S a : Nat)) : ∀ (n j : Nat) (c : Int), j + n = 24 → 0 ≤ c → Q (qOut (pr B s S) (-1) n j c).2 M → wX2_pairs_4 Q (n + 1) c (j : Int) M := by
  intro n
  induction n with
  | zero =>
    intro j c hj hc hk
    unfold wX2_pairs_4
    refine ⟨(inRof ⟨by omega, by omega⟩), ?_⟩
    rw [if_neg (by omega)]
    exact hk
  | succ n ih =>
    intro j c hj hc hk
    unfold wX2_pairs_4
    refine ⟨(inRof ⟨by omega, by omega⟩), ?_⟩
    have fl := foe_lt (B := B) (s := s) (S := S) (a := j)
    have dl := Nat.div_le_self (foe B s S j) (2 ^ j)
    rw [if_pos (by omega), hg j (by omega), shrN (by omega) (by omega)]
    refine ⟨⟨by omega, by omega⟩, b_bits (by omega) ?_⟩
    have e := qIn_all (p := pr B s S) (a := j) (n := foe B s S j) (24 - j) j c hc (fun i hi => by
      rw [Nat.testBit_div_two_pow, Nat.add_comm i j, Bool.eq_iff_iff]
      unfold foe
      rw [bset_bit]
      exact ⟨fun x => x.2, fun x => ⟨by omega, x⟩⟩)
    unfold qOut at hk
    rw [e] at hk
    rw [if_pos rfl] at hk
    rw [foe_shift (by omega)]
    exact ih (j + 1) _ (by omega) (by omega) hk
theorem l_pin {Q : Int → Mm → Prop} {k4 : Int → Int → Mm → Prop} {w : Int} {a : Nat} (ha : a < 24) (hw : inR w) (hg : ∀ a : Nat, a < 24 → M 84 (a : Int) = (foe B s S a : Nat)) : ∀ (n j : Nat) (c : Int), j + n = 24 → 0 ≤ c → c ≤ 24 * (a : Int) + (j : Int) → ((qIn (pr B s S) w a n j c).1 ≠ -1 → Q (qIn (pr B s S) w a n j c).1 M) → ((qIn (pr B s S) w a n j c).1 = -1 → k4 (qIn (pr B s S) w a n j c).2 ((a : Int) + 1) M) → wX2_pairAt_13 Q k4 w (a : Int) (n + 1) c (j : Int) M := by
  intro n
  induction n with
  | zero =>
    intro j c hj hc hc2 h1 h0
    unfold wX2_pairAt_13
    refine ⟨(inRof ⟨by omega, by omega⟩), ?_⟩
    rw [if_neg (by omega)]
    exact h0 rfl
  | succ n ih =>
    intro j c hj hc hc2 h1 h0
    unfold wX2_pairAt_13
    refine ⟨(inRof ⟨by omega, by omega⟩), ?_⟩
    have fl := foe_lt (B := B) (s := s) (S := S) (a := a)
    have hb := bit01 (n := foe B s S a) (j := j) (by omega) (by omega)
    have eb : (foe B s S a).testBit j = true ↔ pr B s S a j = true := by unfold foe; rw [bset_bit]; exact ⟨fun x => x.2, fun x => ⟨by omega, x⟩⟩
    rw [if_pos (by omega), hg a ha]
    refine ⟨⟨by omega, by omega⟩, ?_⟩
    unfold qIn at h1 h0
    by_cases q : pr B s S a j = true
    · rw [if_pos (hb.1.mpr (eb.mpr q))]
      rw [if_pos q] at h1 h0
      refine ⟨(inRof ⟨by omega, by omega⟩), hw, ?_⟩
      by_cases q2 : c = w
      · rw [if_pos q2]
        rw [if_pos q2] at h1
        unfold wX2_pairAt_40
        have := h1 (by show 24 * (a : Int) + (j : Int) ≠ -1; omega)
        rw [Int.mul_comm] at this
        exact this
      · rw [if_neg q2]
        rw [if_neg q2] at h1 h0
        exact ih (j + 1) (c + 1) (by omega) (by omega) (by omega) h1 h0
    · rw [if_neg (fun z => q (eb.mp (hb.1.mp z)))]
      rw [if_neg q] at h1 h0
      exact ih (j + 1) c (by omega) hc (by omega) h1 h0
theorem l_pat {Q : Int → Mm → Prop} {w : Int} (hw : inR w) (hg : ∀ a : Nat, a < 24 → M 84 (a : Int) = (foe B s S a : Nat)) : ∀ (n j : Nat) (c : Int), j + n = 24 → 0 ≤ c → c ≤ 24 * (j : Int) → Q (qOut (pr B s S) w n j c).1 M → wX2_pairAt_4 Q w (n + 1) c (j : Int) M := by
  intro n
  induction n with
  | zero =>
    intro j c hj hc hc2 hk
    unfold wX2_pairAt_4
    refine ⟨(inRof ⟨by omega, by omega⟩), ?_⟩
    rw [if_neg (by omega)]
    exact hk
  | succ n ih =>
    intro j c hj hc hc2 hk
    unfold wX2_pairAt_4
    refine ⟨(inRof ⟨by omega, by omega⟩), ?_⟩
    rw [if_pos (by omega)]
    have r := qIn_range (p := pr B s S) (w := w) (a := j) (24 - j) j c hc
    unfold qOut at hk
    refine ⟨24 - j + 1, l_pin (by omega) hw hg (24 - j) j c (by omega) hc (by omega) (fun q => ?_) (fun q => ?_)⟩
    · rw [if_neg q] at hk; exact hk
    · rw [if_pos q] at hk
      exact ih (j + 1) _ (by omega) (by omega) (by omega) hk
/-- the model's quarrel of two logs -/
theorem i_quar {A C : Mm → Prop} {a b : Nat} (hB : M 103 = B) (h : BkR bb B) (ha : (a : Int) < B 724) (hb : (b : Int) < B 724) (ra : rd B (a : Int) 0 ≠ -1) (rb : rd B (b : Int) 0 ≠ -1) (h1 : B (503 + 9 * (a : Int)) = B (503 + 9 * (b : Int)) → qr B (B (503 + 9 * (a : Int))) a b = true → ∀ M', FrM M M' → C M') (h0 : ¬ (B (503 + 9 * (a : Int)) = B (503 + 9 * (b : Int)) ∧ qr B (B (503 + 9 * (a : Int))) a b = true) → ∀ M', FrM M M' → A M') : Bd (wX12_quarrel0 (a : Int) (b : Int) M) (fun r M => inR r ∧ (if r = 0 then A M else C M)) := by
  subst hB
  have n0 := h.1.1
  have n3 := h.1.2.2.2
  obtain ⟨-, r1, -⟩ := h.2.2.2.2.2.2.1 (a : Int) (by omega) ha
  obtain ⟨-, r2, -⟩ := h.2.2.2.2.2.2.1 (b : Int) (by omega) hb
  apply Bd.of; unfold wX12_quarrel0
  refine b_logAt (x := 503 + 9 * (a : Int)) (by omega) (by omega) (by omega) ?_
  refine b_logAt (x := 503 + 9 * (b : Int)) (by omega) (by omega) (by omega) ⟨(inRof ⟨by omega, by omega⟩), (inRof ⟨by omega, by omega⟩), ?_⟩
  by_cases q : M 103 (503 + 9 * (a : Int)) = M 103 (503 + 9 * (b : Int))
  · rw [if_pos q]
    refine b_logAt (x := 503 + 9 * (a : Int)) (by omega) (by omega) (by omega) ?_
    have ha24 : a < 24 := by omega
    have hb24 : b < 24 := by omega
    have p1 := pow24 ha24
    have p2 := pow24 hb24
    rw [shl1 (by omega), shl1 (by omega), lorN (by omega) (by omega)]
    have hS : Lgs (M 103) (M 103 (503 + 9 * (a : Int))) (2 ^ a ||| 2 ^ b) := fun l hl => by
      rw [or_bit] at hl
      rcases hl with e | e <;> subst e
      · exact ⟨ha, rfl, ra⟩
      · exact ⟨hb, q.symm, rb⟩
    have hlt : 2 ^ a ||| 2 ^ b < 16777216 := Nat.or_lt_two_pow (n := 24) (by omega) (by omega)
    refine i_spans rfl h (inRof ⟨by omega, by omega⟩) hS hlt (fun ho M' hf he => tI0 (h0 (fun z => qr_iff.mp z.2 ho) M' hf)) (fun ho M' hf => tI1 (h1 q (qr_iff.mpr ho) M' hf))
  · rw [if_neg q]
    exact tI0 (h0 (fun z => q z.1) M FrM.refl)
theorem bit2 {n a b : Nat} (ha : a < 32) (hb : b < 32) (hn : n < 2147483648) : landI (landI (shrI (n : Int) (a : Int)) (shrI (n : Int) (b : Int))) 1 = if (n.testBit a && n.testBit b) = true then 1 else 0 := by
  have d1 := Nat.div_le_self n (2 ^ a)
  have d2 := Nat.div_le_self n (2 ^ b)
  rw [shrN ha hn, shrN hb hn, landN (by omega) (by omega)]
  have l1 := Nat.and_le_left (n := n / 2 ^ a) (m := n / 2 ^ b)
  have e : landI ((n / 2 ^ a &&& n / 2 ^ b : Nat) : Int) 1 = ((n / 2 ^ a &&& n / 2 ^ b &&& 1 : Nat) : Int) := landN (m := 1) (by omega) (by decide)
  rw [e]
  have t : (n / 2 ^ a &&& n / 2 ^ b).testBit 0 = (n.testBit a && n.testBit b) := by
    rw [Nat.testBit_and, Nat.testBit_div_two_pow, Nat.testBit_div_two_pow, Nat.zero_add, Nat.zero_add]
  rw [Nat.testBit_zero] at t
  rw [Nat.and_one_is_mod, ← t]
  by_cases q : (n / 2 ^ a &&& n / 2 ^ b) % 2 = 1
  · rw [decide_eq_true q, if_pos rfl, q]; rfl
  · rw [decide_eq_false q, if_neg (by decide)]; omega
theorem l_qin {Q : Int → Mm → Prop} {k4 : Int → Int → Mm → Prop} {w : Int} {a : Nat} (h : BkR bb B) (hS : Lgs B s S) (hSn : S < 16777216) (ha : a < 24) (hw : inR w) : ∀ (n j : Nat) (c : Int) (M : Mm), j + n = 24 → 0 ≤ c → c ≤ 24 * (a : Int) + (j : Int) → M 103 = B → ((qIn (pr B s S) w a n j c).1 ≠ -1 → ∀ M', FrM M M' → Q (qIn (pr B s S) w a n j c).1 M') → ((qIn (pr B s S) w a n j c).1 = -1 → ∀ M', FrM M M' → k4 (qIn (pr B s S) w a n j c).2 ((a : Int) + 1) M') → wX12_quarrels_47 Q k4 w (S : Int) (a : Int) (n + 1) c (j : Int) M := by
  intro n
  induction n with
  | zero =>
    intro j c M hj hc hc2 hB h1 h0
    unfold wX12_quarrels_47
    refine ⟨(inRof ⟨by omega, by omega⟩), ?_⟩
    rw [if_neg (by omega)]
    exact h0 rfl M FrM.refl
  | succ n ih =>
    intro j c M hj hc hc2 hB h1 h0
    unfold wX12_quarrels_47
    refine ⟨(inRof ⟨by omega, by omega⟩), ?_⟩
    rw [if_pos (by omega), bit2 (by omega) (by omega) (by omega)]
    unfold qIn at h1 h0
    by_cases q : (S.testBit a && S.testBit j) = true
    · rw [if_pos q, if_neg (by decide)]
      have q' := Bool.and_eq_true_iff.mp q
      obtain ⟨a1, a2, a3⟩ := hS a q'.1
      obtain ⟨b1, b2, b3⟩ := hS j q'.2
      have ep : pr B s S a j = qr B s a j := by unfold pr; rw [q, Bool.true_and]
      rw [ep] at h1 h0
      refine i_quar hB h a1 b1 a3 b3 (fun x1 x2 M' hf => ?_) (fun x M' hf => ?_)
      · rw [a2] at x2
        rw [if_pos x2] at h1 h0
        refine ⟨(inRof ⟨by omega, by omega⟩), hw, ?_⟩
        by_cases q2 : c = w
        · rw [if_pos q2]
          rw [if_pos q2] at h1
          unfold wX12_quarrels_90
          exact h1 (by show 24 * (a : Int) + (j : Int) ≠ -1; omega) M' hf
        · rw [if_neg q2]
          rw [if_neg q2] at h1 h0
          exact ih (j + 1) (c + 1) M' (by omega) (by omega) (by omega) (by rw [hf.row]; exact hB) (fun z M2 f2 => h1 z M2 (hf.trans f2)) (fun z M2 f2 => h0 z M2 (hf.trans f2))
      · have x2 : ¬ qr B s a j = true := fun z => x ⟨by rw [a2, b2], by rw [a2]; exact z⟩
        rw [if_neg x2] at h1 h0
        exact ih (j + 1) c M' (by omega) hc (by omega) (by rw [hf.row]; exact hB) (fun z M2 f2 => h1 z M2 (hf.trans f2)) (fun z M2 f2 => h0 z M2 (hf.trans f2))
    · rw [if_neg q, if_pos rfl]
      have ep : ¬ pr B s S a j = true := by unfold pr; rw [(Bool.not_eq_true _).mp q, Bool.false_and]; decide
      rw [if_neg ep] at h1 h0
      exact ih (j + 1) c M (by omega) hc (by omega) hB h1 h0
theorem l_qout {Q : Int → Mm → Prop} {w : Int} (h : BkR bb B) (hS : Lgs B s S) (hSn : S < 16777216) (hw : inR w) : ∀ (n j : Nat) (c : Int) (M : Mm), j + n = 24 → 0 ≤ c → c ≤ 24 * (j : Int) → M 103 = B → (∀ M', FrM M M' → Q (if w = -1 then (if (qOut (pr B s S) w n j c).1 = -1 then (qOut (pr B s S) w n j c).2 else (qOut (pr B s S) w n j c).1) else (qOut (pr B s S) w n j c).1) M') → wX12_quarrels_36 Q w (S : Int) (n + 1) c (j : Int) M := by
  intro n
  induction n with
  | zero =>
    intro j c M hj hc hc2 hB hk
    unfold wX12_quarrels_36
    refine ⟨(inRof ⟨by omega, by omega⟩), ?_⟩
    rw [if_neg (by omega)]
    unfold wX12_quarrels_114
    refine ⟨hw, ?_⟩
    have hk := hk M FrM.refl
    by_cases q : w = -1
    · rw [if_pos q]; rw [if_pos q] at hk; exact hk
    · rw [if_neg q]; rw [if_neg q] at hk; exact hk
  | succ n ih =>
    intro j c M hj hc hc2 hB hk
    unfold wX12_quarrels_36
    refine ⟨(inRof ⟨by omega, by omega⟩), ?_⟩
    rw [if_pos (by omega)]
    have r := qIn_range (p := pr B s S) (w := w) (a := j) (24 - j) j c hc
    unfold qOut at hk
    refine ⟨24 - j + 1, l_qin h hS hSn (by omega) hw (24 - j) j c M (by omega) hc (by omega) hB (fun q M' hf => ?_) (fun q M' hf => ?_)⟩
    · rw [if_neg q] at hk
      have hk := hk M' hf
      rw [if_neg q] at hk
      by_cases z : w = -1
      · rw [if_pos z] at hk; exact hk
      · rw [if_neg z] at hk; exact hk
    · rw [if_pos q] at hk
      exact ih (j + 1) _ M' (by omega) (by omega) (by omega) (by rw [hf.row]; exact hB) (fun M2 f2 => hk M2 (hf.trans f2))
end Pairs
