/-! ===== sets of logs: sums, groups, bounds, the worthiest ===== -/
def sd (a b : Nat) : Nat := bset (fun i => a.testBit i && !b.testBit i) 24
theorem sd_bit {a b i : Nat} (ha : a < 16777216) : (sd a b).testBit i = true ↔ a.testBit i = true ∧ ¬ b.testBit i = true := by
  unfold sd
  rw [bset_bit, Bool.and_eq_true, Bool.not_eq_true', Bool.not_eq_true]
  constructor
  · rintro ⟨-, h⟩; exact h
  · intro h
    refine ⟨?_, h⟩
    by_cases q : i < 24
    · exact q
    · have : a.testBit i = false := Nat.testBit_lt_two_pow (Nat.lt_of_lt_of_le (show a < 2 ^ 24 by omega) (Nat.pow_le_pow_right (by decide) (by omega)))
      rw [this] at h
      exact absurd h.1 (by decide)
theorem sd_lt {a b : Nat} : sd a b < 16777216 := bset24 (Nat.le_refl _)
theorem bit_lt {a i : Nat} (ha : a < 16777216) (h : a.testBit i = true) : i < 24 := by
  by_cases q : i < 24
  · exact q
  · have : a.testBit i = false := Nat.testBit_lt_two_pow (Nat.lt_of_lt_of_le (show a < 2 ^ 24 by omega) (Nat.pow_le_pow_right (by decide) (by omega)))
    rw [this] at h
    exact absurd h (by decide)
theorem andnotN {a b : Nat} (ha : a < 16777216) (hb : b < 16777216) : landI (a : Int) (lxorI (b : Int) (-1)) = (sd a b : Nat) := by
  unfold landI lxorI
  rw [Int32.ofInt_toInt]
  have e : (Int32.ofInt (a : Int) &&& (Int32.ofInt (b : Int) ^^^ Int32.ofInt (-1))).toBitVec.toNat = sd a b := by
    have e0 : (Int32.ofInt (a : Int) &&& (Int32.ofInt (b : Int) ^^^ Int32.ofInt (-1))).toBitVec = (Int32.ofInt (a : Int)).toBitVec &&& ((Int32.ofInt (b : Int)).toBitVec ^^^ (Int32.ofInt (-1)).toBitVec) := rfl
    rw [e0]
    apply Nat.eq_of_testBit_eq
    intro i
    rw [BitVec.toNat_and, BitVec.toNat_xor, Nat.testBit_and, Nat.testBit_xor, tn32 (by omega), tn32 (by omega)]
    have em : (Int32.ofInt (-1)).toBitVec.toNat = 2 ^ 32 - 1 := by decide
    rw [em, Nat.testBit_two_pow_sub_one, Bool.eq_iff_iff, sd_bit ha, Bool.and_eq_true]
    by_cases q : i < 32
    · rw [decide_eq_true q, Bool.xor_true, Bool.not_eq_true', Bool.not_eq_true]
    · constructor
      · intro h; exact absurd (bit_lt ha h.1) (by omega)
      · intro h; exact absurd (bit_lt ha h.1) (by omega)
  have hl := sd_lt (a := a) (b := b)
  rw [toInt_small (by rw [e]; omega), e]
def sumF (f : Nat → Int) (T : Nat) : Nat → Int
  | 0 => 0
  | n + 1 => if T.testBit n = true then sumF f T n + f n else sumF f T n
def SF (f : Nat → Int) (T : Nat) : Int := sumF f T 24
theorem sumF_zero {f : Nat → Int} {T : Nat} : ∀ n : Nat, (∀ i, i < n → ¬ T.testBit i = true) → sumF f T n = 0
  | 0, _ => rfl
  | n + 1, h => by
    unfold sumF
    rw [if_neg (h n (by omega))]
    exact sumF_zero n (fun i hi => h i (by omega))
theorem sumF_add {f : Nat → Int} {T A C : Nat} : ∀ n : Nat, (∀ i, i < n → (T.testBit i = true ↔ A.testBit i = true ∨ C.testBit i = true) ∧ ¬ (A.testBit i = true ∧ C.testBit i = true)) → sumF f T n = sumF f A n + sumF f C n
  | 0, _ => rfl
  | n + 1, h => by
    have ih := sumF_add n (fun i hi => h i (by omega)) (f := f)
    have hn := h n (by omega)
    unfold sumF
    by_cases q1 : A.testBit n = true
    · rw [if_pos q1, if_neg (fun z => hn.2 ⟨q1, z⟩), if_pos (hn.1.mpr (Or.inl q1))]; omega
    · rw [if_neg q1]
      by_cases q2 : C.testBit n = true
      · rw [if_pos q2, if_pos (hn.1.mpr (Or.inr q2))]; omega
      · rw [if_neg q2, if_neg (fun z => by rcases hn.1.mp z with y | y; exact q1 y; exact q2 y)]; omega
theorem sumF_nonneg {f : Nat → Int} {T : Nat} : ∀ n : Nat, (∀ i, i < n → T.testBit i = true → 0 ≤ f i) → 0 ≤ sumF f T n
  | 0, _ => Int.le_refl _
  | n + 1, h => by
    have ih := sumF_nonneg n (fun i hi => h i (by omega))
    unfold sumF
    by_cases q : T.testBit n = true
    · rw [if_pos q]; have := h n (by omega) q; omega
    · rw [if_neg q]; exact ih
theorem sumF_le {f : Nat → Int} {T : Nat} {C : Int} (hC : 0 ≤ C) : ∀ n : Nat, (∀ i, i < n → T.testBit i = true → f i ≤ C) → sumF f T n ≤ C * (n : Int)
  | 0, _ => by show (0 : Int) ≤ C * 0; omega
  | n + 1, h => by
    have ih := sumF_le hC n (fun i hi => h i (by omega))
    have e : C * ((n + 1 : Nat) : Int) = C * (n : Int) + C := by rw [show ((n + 1 : Nat) : Int) = (n : Int) + 1 by omega, Int.mul_add, Int.mul_one]
    rw [e]
    unfold sumF
    by_cases q : T.testBit n = true
    · rw [if_pos q]; have := h n (by omega) q; omega
    · rw [if_neg q]; omega
def subs (T A : Nat) : Prop := ∀ i : Nat, T.testBit i = true → A.testBit i = true
def ind (g : Nat → Nat) (T : Nat) : Prop := ∀ a b : Nat, T.testBit a = true → T.testBit b = true → ¬ (g a).testBit b = true
/-- the graph is even on U and no log quarrels with itself -/
def evn (g : Nat → Nat) (U : Nat) : Prop := (∀ a b : Nat, U.testBit a = true → U.testBit b = true → (g a).testBit b = true → (g b).testBit a = true) ∧ ∀ a : Nat, U.testBit a = true → ¬ (g a).testBit a = true
/-! groups -/
def gpR (g : Nat → Nat) (fr : Nat) : Nat → Nat → Nat → Nat
  | 0, _, x => x
  | n + 1, i, x => if fr.testBit i = true ∧ sd x (g i) = 0 then gpR g fr n (i + 1) (x ||| 2 ^ i) else gpR g fr n (i + 1) x
def gp (g : Nat → Nat) (fr i : Nat) : Nat := gpR g fr (23 - i) (i + 1) (2 ^ i)
def mxR (f : Nat → Int) (x : Nat) : Nat → Int
  | 0 => 0
  | n + 1 => if x.testBit n = true then max (mxR f x n) (f n) else mxR f x n
def bnR (f : Nat → Int) (g : Nat → Nat) : Nat → Nat → Nat → Int → Int
  | 0, _, _, acc => acc
  | n + 1, j, fr, acc => if fr.testBit j = true then bnR f g n (j + 1) (sd fr (gp g fr j)) (acc + mxR f (gp g fr j) 24) else bnR f g n (j + 1) fr acc
def bnd (f : Nat → Int) (g : Nat → Nat) (O : Nat) : Int := bnR f g 24 0 O 0
section Groups
variable {f : Nat → Int} {g : Nat → Nat} {U fr O T : Nat}
theorem sd_zero {x y : Nat} (hx : x < 16777216) (h : sd x y = 0) {i : Nat} (hi : x.testBit i = true) : y.testBit i = true := by
  by_cases q : y.testBit i = true
  · exact q
  · have := (sd_bit (b := y) hx).mpr ⟨hi, q⟩
    rw [h, Nat.zero_testBit] at this
    exact absurd this (by decide)
theorem or_lt {x i : Nat} (hx : x < 16777216) (hi : i < 24) : x ||| 2 ^ i < 16777216 := Nat.or_lt_two_pow (n := 24) (by omega) (by have := pow24 hi; omega)
theorem orb {x i l : Nat} : (x ||| 2 ^ i).testBit l = true ↔ x.testBit l = true ∨ i = l := by rw [Nat.testBit_or, Bool.or_eq_true, pow_bit]
theorem gpR_spec (hE : evn g U) (hf : subs fr U) : ∀ (n i x : Nat), i + n = 24 → x < 16777216 → subs x fr → (∀ a b : Nat, x.testBit a = true → x.testBit b = true → a ≠ b → (g a).testBit b = true) → (gpR g fr n i x < 16777216 ∧ subs x (gpR g fr n i x) ∧ subs (gpR g fr n i x) fr ∧ ∀ a b : Nat, (gpR g fr n i x).testBit a = true → (gpR g fr n i x).testBit b = true → a ≠ b → (g a).testBit b = true)
  | 0, i, x, _, hx, hs, hc => ⟨hx, fun _ h => h, hs, hc⟩
  | n + 1, i, x, hi, hx, hs, hc => by
    unfold gpR
    by_cases q : fr.testBit i = true ∧ sd x (g i) = 0
    · rw [if_pos q]
      have ih := gpR_spec hE hf n (i + 1) (x ||| 2 ^ i) (by omega) (or_lt hx (by omega)) (fun l hl => by
        rw [orb] at hl
        rcases hl with hl | hl
        · exact hs l hl
        · subst hl; exact q.1) (fun a b ha hb hab => by
        rw [orb] at ha hb
        rcases ha with ha | ha
        · rcases hb with hb | hb
          · exact hc a b ha hb hab
          · subst hb
            exact hE.1 i a (hf i q.1) (hf a (hs a ha)) (sd_zero hx q.2 ha)
        · subst ha
          rcases hb with hb | hb
          · exact sd_zero hx q.2 hb
          · exact absurd hb hab)
      exact ⟨ih.1, fun l hl => ih.2.1 l (orb.mpr (Or.inl hl)), ih.2.2⟩
    · rw [if_neg q]
      exact gpR_spec hE hf n (i + 1) x (by omega) hx hs hc
theorem gp_spec (hE : evn g U) (hf : subs fr U) {i : Nat} (hi : i < 24) (hb : fr.testBit i = true) : gp g fr i < 16777216 ∧ (gp g fr i).testBit i = true ∧ subs (gp g fr i) fr ∧ ∀ a b : Nat, (gp g fr i).testBit a = true → (gp g fr i).testBit b = true → a ≠ b → (g a).testBit b = true := by
  have h := gpR_spec hE hf (23 - i) (i + 1) (2 ^ i) (by omega) (pow24 hi) (fun l hl => by rw [pow_bit] at hl; subst hl; exact hb) (fun a b ha hb hab => by rw [pow_bit] at ha hb; omega)
  exact ⟨h.1, h.2.1 i (pow_bit.mpr rfl), h.2.2⟩
theorem mxR_nonneg {x : Nat} : ∀ n : Nat, 0 ≤ mxR f x n
  | 0 => Int.le_refl _
  | n + 1 => by
    have ih := mxR_nonneg (x := x) n
    unfold mxR
    split <;> omega
theorem mxR_le {x : Nat} {C : Int} (hC : 0 ≤ C) : ∀ n : Nat, (∀ i, i < n → x.testBit i = true → f i ≤ C) → mxR f x n ≤ C
  | 0, _ => hC
  | n + 1, h => by
    have ih := mxR_le hC n (fun i hi => h i (by omega))
    unfold mxR
    by_cases q : x.testBit n = true
    · rw [if_pos q]; have := h n (by omega) q; omega
    · rw [if_neg q]; exact ih
theorem one_le {X x : Nat} (hs : subs X x) (h1 : ∀ a b : Nat, X.testBit a = true → X.testBit b = true → a = b) : ∀ n : Nat, sumF f X n ≤ mxR f x n
  | 0 => Int.le_refl _
  | n + 1 => by
    have ih := one_le hs h1 n
    unfold sumF mxR
    by_cases q : X.testBit n = true
    · rw [if_pos q, if_pos (hs n q), sumF_zero n (fun i hi z => by have := h1 i n z q; omega)]
      omega
    · rw [if_neg q]
      split <;> omega
theorem bnR_up (hE : evn g U) (hi : ind g T) : ∀ (n j fr : Nat) (acc : Int), j + n = 24 → fr < 16777216 → subs fr U → (∀ i, i < j → ¬ fr.testBit i = true) → SF f (T &&& fr) + acc ≤ bnR f g n j fr acc
  | 0, j, fr, acc, hj, hl, hf, hn => by
    have e : SF f (T &&& fr) = 0 := sumF_zero 24 (fun i h z => by
      rw [Nat.testBit_and, Bool.and_eq_true] at z
      exact hn i (by omega) z.2)
    rw [e]
    show 0 + acc ≤ acc
    omega
  | n + 1, j, fr, acc, hj, hl, hf, hn => by
    unfold bnR
    by_cases q : fr.testBit j = true
    · rw [if_pos q]
      obtain ⟨g1, g2, g3, g4⟩ := gp_spec hE hf (show j < 24 by omega) q
      have ih := bnR_up hE hi n (j + 1) (sd fr (gp g fr j)) (acc + mxR f (gp g fr j) 24) (by omega) sd_lt (fun l hl' => hf l ((sd_bit hl).mp hl').1) (fun i h z => by
        have := (sd_bit hl).mp z
        by_cases e : i = j
        · subst e; exact this.2 g2
        · exact hn i (by omega) this.1)
      have e : SF f (T &&& fr) = SF f (T &&& gp g fr j) + SF f (T &&& sd fr (gp g fr j)) := sumF_add 24 (fun i _ => by
        rw [Nat.testBit_and, Nat.testBit_and, Nat.testBit_and, Bool.and_eq_true, Bool.and_eq_true, Bool.and_eq_true, sd_bit hl]
        constructor
        · constructor
          · rintro ⟨x1, x2⟩
            by_cases z : (gp g fr j).testBit i = true
            · exact Or.inl ⟨x1, z⟩
            · exact Or.inr ⟨x1, x2, z⟩
          · rintro (⟨x1, x2⟩ | ⟨x1, x2, x3⟩)
            · exact ⟨x1, g3 i x2⟩
            · exact ⟨x1, x2⟩
        · rintro ⟨⟨-, x⟩, -, -, y⟩; exact y x)
      have e2 : SF f (T &&& gp g fr j) ≤ mxR f (gp g fr j) 24 := one_le (fun i z => by rw [Nat.testBit_and, Bool.and_eq_true] at z; exact z.2) (fun a b ha hb => by
        rw [Nat.testBit_and, Bool.and_eq_true] at ha hb
        by_cases z : a = b
        · exact z
        · exact absurd (g4 a b ha.2 hb.2 z) (hi a b ha.1 hb.1)) 24
      omega
    · rw [if_neg q]
      exact bnR_up hE hi n (j + 1) fr acc (by omega) hl hf (fun i h z => by
        by_cases e : i = j
        · subst e; exact q z
        · exact hn i (by omega) z)
theorem bnd_up (hE : evn g U) (hO : subs O U) (hl : O < 16777216) (hT : subs T O) (hi : ind g T) : SF f T ≤ bnd f g O := by
  have h := bnR_up (f := f) hE hi 24 0 O 0 rfl hl hO (fun i h => by omega)
  have e : T &&& O = T := by
    apply Nat.eq_of_testBit_eq
    intro i
    rw [Nat.testBit_and, Bool.eq_iff_iff, Bool.and_eq_true]
    exact ⟨fun z => z.1, fun z => ⟨z, hT i z⟩⟩
  rw [e] at h
  unfold bnd
  omega
theorem bnR_range {C : Int} (hC : 0 ≤ C) (hE : evn g U) (hf0 : ∀ i, U.testBit i = true → f i ≤ C) : ∀ (n j fr : Nat) (acc : Int), j + n = 24 → fr < 16777216 → subs fr U → acc ≤ bnR f g n j fr acc ∧ bnR f g n j fr acc ≤ acc + C * (n : Int)
  | 0, j, fr, acc, _, _, _ => ⟨Int.le_refl _, by show acc ≤ acc + C * 0; omega⟩
  | n + 1, j, fr, acc, hj, hl, hs => by
    have ec : C * ((n + 1 : Nat) : Int) = C * (n : Int) + C := by rw [show ((n + 1 : Nat) : Int) = (n : Int) + 1 by omega, Int.mul_add, Int.mul_one]
    unfold bnR
    by_cases q : fr.testBit j = true
    · rw [if_pos q]
      obtain ⟨g1, g2, g3, g4⟩ := gp_spec hE hs (show j < 24 by omega) q
      have m0 := mxR_nonneg (f := f) (x := gp g fr j) 24
      have m1 := mxR_le (f := f) (x := gp g fr j) hC 24 (fun i _ hi => hf0 i (hs i (g3 i hi)))
      have ih := bnR_range hC hE hf0 n (j + 1) (sd fr (gp g fr j)) (acc + mxR f (gp g fr j) 24) (by omega) sd_lt (fun l hl' => hs l ((sd_bit hl).mp hl').1)
      omega
    · rw [if_neg q]
      have ih := bnR_range hC hE hf0 n (j + 1) fr acc (by omega) hl hs
      omega
/-! the busiest -/
def bzC (g : Nat → Nat) (O i : Nat) : Int := if O.testBit i = true then (popc (g i &&& O) : Nat) else 0
def bzR (g : Nat → Nat) (O : Nat) : Nat → Int × Int
  | 0 => (-1, 0)
  | n + 1 => if bzC g O n ≤ (bzR g O n).2 then bzR g O n else ((n : Int), bzC g O n)
def bz (g : Nat → Nat) (O : Nat) : Int := (bzR g O 24).1
theorem bzC_range {i : Nat} : 0 ≤ bzC g O i ∧ bzC g O i ≤ 24 := by
  have := popc_le (n := g i &&& O)
  unfold bzC
  split <;> omega
theorem bzR_spec : ∀ n : Nat, (0 ≤ (bzR g O n).2 ∧ (bzR g O n).2 ≤ 24) ∧ (∀ i, i < n → bzC g O i ≤ (bzR g O n).2) ∧ (((bzR g O n).1 = -1 ∧ (bzR g O n).2 = 0) ∨ ∃ l : Nat, l < n ∧ (bzR g O n).1 = (l : Int) ∧ O.testBit l = true ∧ bzC g O l = (bzR g O n).2 ∧ 0 < (bzR g O n).2)
  | 0 => ⟨⟨Int.le_refl _, by show (0 : Int) ≤ 24; omega⟩, fun i h => by omega, Or.inl ⟨rfl, rfl⟩⟩
  | n + 1 => by
    obtain ⟨h1, h2, h3⟩ := bzR_spec n
    have hr := bzC_range (g := g) (O := O) (i := n)
    unfold bzR
    by_cases q : bzC g O n ≤ (bzR g O n).2
    · rw [if_pos q]
      refine ⟨h1, fun i hi => ?_, ?_⟩
      · by_cases e : i = n
        · subst e; exact q
        · exact h2 i (by omega)
      · rcases h3 with h3 | ⟨l, l1, l2, l3, l4, l5⟩
        · exact Or.inl h3
        · exact Or.inr ⟨l, by omega, l2, l3, l4, l5⟩
    · rw [if_neg q]
      refine ⟨hr, fun i hi => ?_, Or.inr ⟨n, by omega, rfl, ?_, rfl, by show 0 < bzC g O n; omega⟩⟩
      · show bzC g O i ≤ bzC g O n
        by_cases e : i = n
        · subst e; exact Int.le_refl _
        · have := h2 i (by omega); omega
      · by_cases z : O.testBit n = true
        · exact z
        · exfalso
          have : bzC g O n = 0 := by unfold bzC; rw [if_neg z]
          omega
theorem popc_zero {n : Nat} : ∀ k : Nat, pcR n k = 0 → ∀ i, i < k → ¬ n.testBit i = true
  | 0, _, i, hi => by omega
  | k + 1, h, i, hi => by
    unfold pcR at h
    by_cases e : i = k
    · subst e
      intro z
      rw [if_pos z] at h
      omega
    · exact popc_zero k (by omega) i (by omega)
theorem bz_none (hl : O < 16777216) (h : bz g O = -1) : ind g O := by
  obtain ⟨h1, h2, h3⟩ := bzR_spec (g := g) (O := O) 24
  intro a b ha hb hab
  have h0 : (bzR g O 24).2 = 0 := by
    rcases h3 with h3 | ⟨l, l1, l2, -⟩
    · exact h3.2
    · have : (bzR g O 24).1 = -1 := h
      omega
  have ha24 := bit_lt hl ha
  have hc := h2 a ha24
  unfold bzC at hc
  rw [if_pos ha, h0] at hc
  have hz : popc (g a &&& O) = 0 := by omega
  exact popc_zero 24 hz b (bit_lt hl hb) (by rw [Nat.testBit_and, hab, hb]; rfl)
theorem bz_some (h : bz g O ≠ -1) : ∃ l : Nat, l < 24 ∧ bz g O = (l : Int) ∧ O.testBit l = true := by
  obtain ⟨h1, h2, h3⟩ := bzR_spec (g := g) (O := O) 24
  rcases h3 with h3 | ⟨l, l1, l2, l3, l4⟩
  · exact absurd h3.1 h
  · exact ⟨l, l1, l2, l3⟩
end Groups
