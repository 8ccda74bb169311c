/-! ===== quarrels; Graph.load ===== -/
def bset (p : Nat → Bool) : Nat → Nat
  | 0 => 0
  | n + 1 => if p n = true then bset p n ||| 2 ^ n else bset p n
theorem bset_lt (p : Nat → Bool) : ∀ n : Nat, bset p n < 2 ^ n
  | 0 => by show 0 < 2 ^ 0; decide
  | n + 1 => by
    have ih := bset_lt p n
    have e : 2 ^ (n + 1) = 2 ^ n + 2 ^ n := by rw [Nat.pow_succ]; omega
    unfold bset
    split
    · exact Nat.or_lt_two_pow (by omega) (by rw [e]; have := Nat.two_pow_pos n; omega)
    · omega
theorem bset_bit (p : Nat → Bool) (i : Nat) : ∀ n : Nat, (bset p n).testBit i = true ↔ i < n ∧ p i = true
  | 0 => by
    show (0 : Nat).testBit i = true ↔ _
    simp
  | n + 1 => by
    have ih := bset_bit p i n
    unfold bset
    by_cases c : p n = true
    · rw [if_pos c, Nat.testBit_or, Bool.or_eq_true, ih, Nat.testBit_two_pow, decide_eq_true_eq]
      constructor
      · rintro (⟨h1, h2⟩ | h1)
        · exact ⟨by omega, h2⟩
        · subst h1; exact ⟨by omega, c⟩
      · rintro ⟨h1, h2⟩
        by_cases q : n = i
        · exact Or.inr q
        · exact Or.inl ⟨by omega, h2⟩
    · rw [if_neg c, ih]
      constructor
      · rintro ⟨h1, h2⟩; exact ⟨by omega, h2⟩
      · rintro ⟨h1, h2⟩
        by_cases q : n = i
        · subst q; exact absurd h2 c
        · exact ⟨by omega, h2⟩
theorem bset24 {p : Nat → Bool} {n : Nat} (h : n ≤ 24) : bset p n < 16777216 := by
  have h1 := bset_lt p n
  have : 2 ^ n ≤ 2 ^ 24 := Nat.pow_le_pow_right (by decide) h
  omega
theorem bset_congr {p q : Nat → Bool} : ∀ n : Nat, (∀ i, i < n → p i = q i) → bset p n = bset q n
  | 0, _ => rfl
  | n + 1, h => by
    have ih := bset_congr n (fun i hi => h i (by omega))
    unfold bset
    rw [ih, h n (by omega)]
/-- two logs quarrel (one with itself) -/
noncomputable def qr (B : Int → Int) (s : Int) (a b : Nat) : Bool := @decide (¬ sOk B s (2 ^ a ||| 2 ^ b)) (Classical.propDecidable _)
theorem qr_iff {B : Int → Int} {s : Int} {a b : Nat} : qr B s a b = true ↔ ¬ sOk B s (2 ^ a ||| 2 ^ b) := @decide_eq_true_iff (¬ sOk B s (2 ^ a ||| 2 ^ b)) (Classical.propDecidable _)
theorem qr_symm {B : Int → Int} {s : Int} {a b : Nat} : qr B s a b = qr B s b a := by unfold qr; rw [Nat.or_comm]
theorem or_bit {a b l : Nat} : (2 ^ a ||| 2 ^ b).testBit l = true ↔ a = l ∨ b = l := by rw [Nat.testBit_or, Bool.or_eq_true, pow_bit, pow_bit]
noncomputable def pr (B : Int → Int) (s : Int) (S a i : Nat) : Bool := S.testBit a && S.testBit i && qr B s a i
noncomputable def foe (B : Int → Int) (s : Int) (S a : Nat) : Nat := bset (pr B s S a) 24
noncomputable def sdp (B : Int → Int) (s : Int) (S a : Nat) : Bool := S.testBit a && !qr B s a a
/-- the logs of S that don't quarrel with themselves -/
noncomputable def snd (B : Int → Int) (s : Int) (S : Nat) : Nat := bset (sdp B s S) 24
section Qr
variable {b : Mm} {B : Int → Int} {s : Int} {S : Nat} {a i : Nat}
theorem Lgs.two (hS : Lgs B s S) (ha : S.testBit a = true) (hi : S.testBit i = true) : Lgs B s (2 ^ a ||| 2 ^ i) := fun l hl => by
  rw [or_bit] at hl
  rcases hl with e | e <;> subst e
  · exact hS a ha
  · exact hS i hi
theorem qr_self (h : BkR b B) (hS : Lgs B s S) (ha : S.testBit a = true) (hi : S.testBit i = true) (hq : qr B s a a = true) : qr B s a i = true := by
  rw [qr_iff] at hq ⊢
  intro ho
  exact hq (sOk_sub h (hS.two ha hi) (fun l hl => by rw [or_bit] at hl ⊢; exact Or.inl (by omega)) ho)
theorem qr_own : qr B s a a = true ↔ ¬ sOk B s (2 ^ a) := by rw [qr_iff, Nat.or_self]
theorem qr_apart (h : BkR b B) (hS : Lgs B s S) (ha : S.testBit a = true) (hi : S.testBit i = true) (ho : sOk B s (2 ^ a)) : (sHi B s (2 ^ a) (B (504 + 9 * (i : Int))).toNat < rd B (i : Int) 0 ∨ rd B (i : Int) 1 < sLo B s (2 ^ a) (B (504 + 9 * (i : Int))).toNat) ↔ qr B s a i = true := by
  have hD : (B (504 + 9 * (i : Int))).toNat < 120 := by
    obtain ⟨-, -, r2, -⟩ := h.2.2.2.2.2.2.1 (i : Int) (by omega) (hS i hi).1
    omega
  have hr := hS.rd h hi
  have hs := (sOk_iff h).mp ho _ hD
  rw [qr_iff]
  constructor
  · intro hap ho2
    obtain ⟨c, h1, h2⟩ := (sOk_ex h (hS.two ha hi)).mp ho2
    have m1 := h2 i (by rw [or_bit]; exact Or.inr rfl)
    have hc := (crv_iff h (hS.one ha)).mpr ⟨h1, fun l hl => h2 l (by rw [pow_bit] at hl; rw [or_bit]; exact Or.inl hl)⟩
    have := crv_b hc _ hD
    have m1' := m1.1
    have m1'' := m1.2
    have t1 : sLo B s (2 ^ a) (B (504 + 9 * (i : Int))).toNat ≤ c (B (504 + 9 * (i : Int))).toNat := this.1
    have t2 : c (B (504 + 9 * (i : Int))).toNat ≤ sHi B s (2 ^ a) (B (504 + 9 * (i : Int))).toNat := this.2
    omega
  · intro hno
    by_cases q : sHi B s (2 ^ a) (B (504 + 9 * (i : Int))).toNat < rd B (i : Int) 0 ∨ rd B (i : Int) 1 < sLo B s (2 ^ a) (B (504 + 9 * (i : Int))).toNat
    · exact q
    · exfalso
      apply hno
      obtain ⟨c, hc, hz⟩ := crv_ex (LH h) ho hD (z := max (sLo B s (2 ^ a) (B (504 + 9 * (i : Int))).toNat) (rd B (i : Int) 0)) ⟨by show sLo B s (2 ^ a) _ ≤ _; omega, by show _ ≤ sHi B s (2 ^ a) _; omega⟩
      have hc := (crv_iff h (hS.one ha)).mp hc
      refine (sOk_ex h (hS.two ha hi)).mpr ⟨c, hc.1, fun l hl => ?_⟩
      rw [or_bit] at hl
      rcases hl with e | e
      · exact hc.2 l (by rw [pow_bit]; exact e)
      · subst e
        unfold met
        rw [hz]
        omega
theorem snd_bit {l : Nat} : (snd B s S).testBit l = true ↔ l < 24 ∧ S.testBit l = true ∧ ¬ qr B s l l = true := by
  unfold snd
  rw [bset_bit]
  unfold sdp
  rw [Bool.and_eq_true, Bool.not_eq_true', Bool.not_eq_true]
theorem foe_bit {l : Nat} : (foe B s S a).testBit l = true ↔ l < 24 ∧ S.testBit a = true ∧ S.testBit l = true ∧ qr B s a l = true := by
  unfold foe
  rw [bset_bit]
  unfold pr
  rw [Bool.and_eq_true, Bool.and_eq_true]
  constructor
  · rintro ⟨h1, ⟨h2, h3⟩, h4⟩; exact ⟨h1, h2, h3, h4⟩
  · rintro ⟨h1, h2, h3, h4⟩; exact ⟨h1, ⟨h2, h3⟩, h4⟩
theorem foe_lt : foe B s S a < 16777216 := bset24 (Nat.le_refl _)
theorem snd_lt : snd B s S < 16777216 := bset24 (Nat.le_refl _)
end Qr
/-- the graph as the class holds it -/
def Gr (M : Mm) (B : Int → Int) (s : Int) (S : Nat) : Prop := M 83 3 = (S : Int) ∧ M 83 4 = (snd B s S : Nat) ∧ ∀ a : Nat, a < 24 → M 84 (a : Int) = (foe B s S a : Nat)
section Load
variable {kv : Mm → Prop} {s : Int} {B : Int → Int} {S : Nat}
theorem up_same {M : Mm} {c : Nat} {i : Int} : up M c i (M c i) = M := by
  funext c' i'
  by_cases h : c' = c
  · subst h
    by_cases h2 : i' = i
    · subst h2; rw [up_eq]
    · rw [up_nei h2]
  · rw [up_ne h]
theorem up_up {M : Mm} {c : Nat} {i x y : Int} : up (up M c i x) c i y = up M c i y := by
  funext c' i'
  by_cases h : c' = c
  · subst h
    by_cases h2 : i' = i
    · subst h2; rw [up_eq, up_eq]
    · rw [up_nei h2, up_nei h2, up_nei h2]
  · rw [up_ne h, up_ne h, up_ne h]
theorem l_ff {Q : Mm → Prop} {M : Mm} {a : Nat} (ha : a < 24) (h : BkR M B) (hn : Nt M B s) (hS : Lgs B s S) (hSn : S < 16777216) (hm : M 83 3 = (S : Int)) (hab : S.testBit a = true) (ho : sOk B s (2 ^ a)) (he : ∀ d : Nat, d < 120 → M 81 (d : Int) = sLo B s (2 ^ a) d ∧ M 82 (d : Int) = sHi B s (2 ^ a) d) (hk : Q (up M 84 (a : Int) (foe B s S a : Nat))) : ∀ (f j : Nat), j ≤ 24 → 24 - j < f → wX2_findFoes_52 Q (a : Int) f (j : Int) (up M 84 (a : Int) (bset (pr B s S a) j : Nat)) := by
  intro f
  induction f with
  | zero => intro j h1 h2; omega
  | succ f ih =>
    intro j h1 h2
    unfold wX2_findFoes_52
    refine ⟨(inRof ⟨by omega, by omega⟩), ?_⟩
    by_cases q : j < 24
    · rw [if_pos (by omega)]
      have ih := ih (j + 1) (by omega) (by omega)
      have st : bset (pr B s S a) (j + 1) = if pr B s S a j = true then bset (pr B s S a) j ||| 2 ^ j else bset (pr B s S a) j := rfl
      rw [st] at ih
      have hb := bit01 (n := S) (j := j) (by omega) (by omega)
      have ep : pr B s S a j = (S.testBit j && qr B s a j) := by unfold pr; rw [hab, Bool.true_and]
      have bl24 := bset24 (p := pr B s S a) (n := j) h1
      have hp := pow24 q
      rw [up_ne (show 83 ≠ 84 by decide), hm]
      by_cases c1 : S.testBit j = true
      · rw [if_pos (hb.1.mpr c1)]
        rw [ep, c1, Bool.true_and] at ih
        obtain ⟨s1, s2, s3⟩ := hS j c1
        obtain ⟨f79, f80⟩ := hn.2.2 (j : Int) (by omega) s1 s2
        obtain ⟨⟨e16, e17, -⟩, r1, r2, -⟩ := h.2.2.2.2.2.2.1 (j : Int) (by omega) s1
        have hr := hS.rd h c1
        obtain ⟨D, hD⟩ := Int.eq_ofNat_of_zero_le r2.1
        have hD' : B (504 + 9 * (j : Int)) = (D : Int) := hD
        have hap := qr_apart h hS hab c1 ho
        rw [hD', Int.toNat_natCast] at hap
        have heD := he D (by omega)
        have l1 := sLo_range h (hS.one hab) D (by omega)
        have l2 := sHi_range h (hS.one hab) D (by omega)
        rw [up_ne (show 17 ≠ 84 by decide), up_ne (show 79 ≠ 84 by decide), up_ne (show 80 ≠ 84 by decide), up_ne (show 81 ≠ 84 by decide), up_ne (show 82 ≠ 84 by decide), e17, f79, f80, hD', heD.1, heD.2]
        refine ⟨⟨by omega, by omega⟩, ⟨by omega, by omega⟩, (inRof ⟨by omega, by omega⟩), (inRof ⟨by omega, by omega⟩), ?_⟩
        have yes : qr B s a j = true → wX2_findFoes_121 Q (wX2_findFoes_52 Q (a : Int) f) (a : Int) (j : Int) 1 (up M 84 (a : Int) (bset (pr B s S a) j : Nat)) := by
          intro hq
          unfold wX2_findFoes_121
          rw [up_eq, up_up, up_up, if_neg (show ¬ (1 : Int) = 0 by decide), shl1 (by omega), lorN (by omega) (by omega)]
          rw [if_pos hq] at ih
          exact ⟨⟨by omega, by omega⟩, inR1, ih⟩
        have no : ¬ qr B s a j = true → wX2_findFoes_121 Q (wX2_findFoes_52 Q (a : Int) f) (a : Int) (j : Int) 0 (up M 84 (a : Int) (bset (pr B s S a) j : Nat)) := by
          intro hq
          unfold wX2_findFoes_121
          have e0 : lorI ((bset (pr B s S a) j : Nat) : Int) 0 = (bset (pr B s S a) j : Nat) := by
            have := lorN (n := bset (pr B s S a) j) (m := 0) (by omega) (by decide)
            rw [Nat.or_zero] at this
            exact this
          rw [up_eq, up_up, up_up, if_pos rfl, e0]
          rw [if_neg hq] at ih
          exact ⟨⟨by omega, by omega⟩, inR0, ih⟩
        by_cases c2 : rd B (j : Int) 0 ≤ sHi B s (2 ^ a) D
        · rw [if_pos c2]
          refine ⟨(inRof ⟨by omega, by omega⟩), (inRof ⟨by omega, by omega⟩), ?_⟩
          by_cases c3 : rd B (j : Int) 1 < sLo B s (2 ^ a) D
          · rw [if_pos c3]; exact yes (hap.mp (Or.inr c3))
          · rw [if_neg c3]; exact no (fun z => by have := hap.mpr z; omega)
        · rw [if_neg c2]; exact yes (hap.mp (Or.inl (by omega)))
      · rw [if_neg (fun z => c1 (hb.1.mp z))]
        rw [ep, (Bool.not_eq_true _).mp c1, Bool.false_and] at ih
        exact ih
    · rw [if_neg (by omega)]
      have e : j = 24 := by omega
      subst e
      exact hk
/-- memory but for ends and graph -/
def FrG (M M' : Mm) : Prop := ∀ c : Nat, c ≠ 81 → c ≠ 82 → c ≠ 83 → c ≠ 84 → M' c = M c
theorem FrG.book {M M' : Mm} (h : FrG M M') (hB : BkR M B) : BkR M' B := BkR_congr (fun c h1 h2 i _ _ => by rw [h c (by omega) (by omega) (by omega) (by omega)]) (fun _ _ _ => rfl) hB
theorem FrG.net {M M' : Mm} (h : FrG M M') (hn : Nt M B s) : Nt M' B s := by
  obtain ⟨⟨n1, n2⟩, n3, n4⟩ := hn
  refine ⟨⟨?_, ?_⟩, ?_, ?_⟩
  · rw [h 72 (by decide) (by decide) (by decide) (by decide)]; exact n1
  · rw [h 73 (by decide) (by decide) (by decide) (by decide), h 74 (by decide) (by decide) (by decide) (by decide), h 75 (by decide) (by decide) (by decide) (by decide), h 76 (by decide) (by decide) (by decide) (by decide), h 77 (by decide) (by decide) (by decide) (by decide), h 78 (by decide) (by decide) (by decide) (by decide)]; exact n2
  · rw [h 72 (by decide) (by decide) (by decide) (by decide)]; exact n3
  · rw [h 79 (by decide) (by decide) (by decide) (by decide), h 80 (by decide) (by decide) (by decide) (by decide)]; exact n4
theorem b_ff {M : Mm} {a : Nat} (ha : a < 24) (h : BkR M B) (hn : Nt M B s) (hS : Lgs B s S) (hSn : S < 16777216) (hm : M 83 3 = (S : Int)) (hab : S.testBit a = true) (h0 : M 84 (a : Int) = 0) (hs : M 83 4 = (bset (sdp B s S) a : Nat)) (hk : ∀ M', FrG M M' → M' 83 3 = (S : Int) → M' 83 4 = (bset (sdp B s S) (a + 1) : Nat) → M' 84 (a : Int) = (foe B s S a : Nat) → (∀ i, i ≠ (a : Int) → M' 84 i = M 84 i) → kv M') : Bv (wX2_findFoes (a : Int) M) kv := by
  apply Bv.of; unfold wX2_findFoes
  rw [shl1 (by omega)]
  have st : bset (sdp B s S) (a + 1) = if sdp B s S a = true then bset (sdp B s S) a ||| 2 ^ a else bset (sdp B s S) a := rfl
  have es : sdp B s S a = !qr B s a a := by unfold sdp; rw [hab, Bool.true_and]
  have b24 := bset24 (p := sdp B s S) (n := a) (by omega)
  have hp := pow24 ha
  refine b_bind h hn (pow24 ha) (hS.one hab) (fun M' e1 e2 => ⟨fun ho => ⟨inR1, ?_⟩, fun ho => ⟨inR0, ?_⟩⟩)
  · rw [if_neg (show ¬ (1 : Int) = 0 by decide)]
    have hq : qr B s a a = false := (Bool.not_eq_true _).mp (fun z => qr_own.mp z ho)
    rw [es, hq] at st
    rw [if_pos (by rfl)] at st
    have hm' : M' 83 3 = (S : Int) := by rw [e1 83 (by decide) (by decide)]; exact hm
    rw [e1 83 (by decide) (by decide), hs, lorN (by omega) (by omega), ← st]
    have := l_ff (Q := kv) (M := up M' 83 4 (bset (sdp B s S) (a + 1) : Nat)) ha (BkR_up (e1.book h) (by decide)) (FrG.net (M := M') (fun c q1 q2 q3 q4 => up_cell q3) (e1.net hn)) hS hSn (by rw [up_nei (by decide)]; exact hm') hab ho (fun d hd => by rw [up_ne (by decide), up_ne (by decide)]; exact e2 d hd) (hk _ (fun c q1 q2 q3 q4 => by rw [up_cell q4, up_cell q3, e1 c q1 q2]) (by rw [up_ne (by decide), up_nei (by decide)]; exact hm') (by rw [up_ne (by decide), up_eq]) up_eq (fun i hi => by rw [up_nei hi, up_ne (by decide), e1 84 (by decide) (by decide)])) 25 0 (by omega) (by omega)
    refine ⟨25, ?_⟩
    have e0 : up (up M' 83 4 (bset (sdp B s S) (a + 1) : Nat)) 84 (a : Int) (bset (pr B s S a) 0 : Nat) = up M' 83 4 (bset (sdp B s S) (a + 1) : Nat) := by
      have : up M' 83 4 (bset (sdp B s S) (a + 1) : Nat) 84 (a : Int) = (bset (pr B s S a) 0 : Nat) := by
        rw [up_ne (by decide), e1 84 (by decide) (by decide), h0]; rfl
      rw [← this]
      exact up_same
    rw [e0] at this
    exact this
  · rw [if_pos rfl]
    have hq : qr B s a a = true := qr_own.mpr ho
    rw [es, hq] at st
    rw [if_neg (by decide)] at st
    have ef : foe B s S a = S := by
      apply Nat.eq_of_testBit_eq
      intro i
      rw [Bool.eq_iff_iff, foe_bit]
      constructor
      · rintro ⟨-, -, x, -⟩; exact x
      · intro x
        have := (hS i x).1
        have n3 := h.1.2.2.2
        exact ⟨by omega, hab, x, qr_self h hS hab x hq⟩
    refine ⟨⟨by omega, by omega⟩, hk _ (fun c q1 q2 q3 q4 => by rw [up_cell q4, e1 c q1 q2]) (by rw [up_ne (by decide), e1 83 (by decide) (by decide)]; exact hm) (by rw [up_ne (by decide), e1 83 (by decide) (by decide), hs, st]) (by rw [up_eq, e1 83 (by decide) (by decide), hm, ef]) (fun i hi => by rw [up_nei hi, e1 84 (by decide) (by decide)])⟩
theorem l_gl {Q : Mm → Prop} (hS : Lgs B s S) (hSn : S < 16777216) : ∀ (f j : Nat) (M : Mm), j ≤ 24 → 24 - j < f → BkR M B → Nt M B s → M 83 3 = (S : Int) → M 83 4 = (bset (sdp B s S) j : Nat) → (∀ a : Nat, a < j → M 84 (a : Int) = (foe B s S a : Nat)) → (∀ M', FrG M M' → Gr M' B s S → Q M') → wX2_load_27 Q f (j : Int) M := by
  intro f
  induction f with
  | zero => intro j M h1 h2; omega
  | succ f ih =>
    intro j M h1 h2 h hn hm hs hf hk
    unfold wX2_load_27
    refine ⟨(inRof ⟨by omega, by omega⟩), ?_⟩
    by_cases q : j < 24
    · rw [if_pos (by omega), hm]
      refine ⟨⟨by omega, by omega⟩, ?_⟩
      have hb := bit01 (n := S) (j := j) (by omega) (by omega)
      have hg : FrG M (up M 84 (j : Int) 0) := fun c q1 q2 q3 q4 => up_cell q4
      by_cases c1 : S.testBit j = true
      · rw [if_pos (hb.1.mpr c1)]
        refine b_ff q (hg.book h) (hg.net hn) hS hSn (by rw [up_ne (by decide)]; exact hm) c1 up_eq (by rw [up_ne (by decide)]; exact hs) (fun M' k1 k2 k3 k4 k5 => ?_)
        refine ih (j + 1) M' (by omega) (by omega) (k1.book (hg.book h)) (k1.net (hg.net hn)) k2 k3 (fun a ha => ?_) (fun M2 g1 g2 => hk M2 (fun c q1 q2 q3 q4 => by rw [g1 c q1 q2 q3 q4, k1 c q1 q2 q3 q4, up_cell q4]) g2)
        by_cases z : a = j
        · subst z; exact k4
        · rw [k5 (a : Int) (by omega), up_nei (by omega)]; exact hf a (by omega)
      · rw [if_neg (fun z => c1 (hb.1.mp z))]
        have c1' : S.testBit j = false := (Bool.not_eq_true _).mp c1
        have st : bset (sdp B s S) (j + 1) = bset (sdp B s S) j := by
          show (if sdp B s S j = true then bset (sdp B s S) j ||| 2 ^ j else bset (sdp B s S) j) = _
          unfold sdp
          rw [c1', Bool.false_and, if_neg (by decide)]
        have ef : foe B s S j = 0 := by
          apply Nat.eq_of_testBit_eq
          intro i
          rw [Nat.zero_testBit, ← Bool.not_eq_true, foe_bit]
          rintro ⟨-, x, -⟩
          exact c1 x
        refine ih (j + 1) _ (by omega) (by omega) (hg.book h) (hg.net hn) (by rw [up_ne (by decide)]; exact hm) (by rw [up_ne (by decide), st]; exact hs) (fun a ha => ?_) (fun M2 g1 g2 => hk M2 (fun c q1 q2 q3 q4 => by rw [g1 c q1 q2 q3 q4, up_cell q4]) g2)
        by_cases z : a = j
        · subst z; rw [up_eq, ef]; rfl
        · rw [up_nei (by omega)]; exact hf a (by omega)
    · rw [if_neg (by omega)]
      have e : j = 24 := by omega
      subst e
      exact hk M (fun _ _ _ _ _ => rfl) ⟨hm, hs, hf⟩
theorem b_gload {M : Mm} {kn : Int} (h : BkR M B) (hs : 0 ≤ s ∧ s < B 721) (hkn : inR kn) (hk : ∀ M', (∀ c : Nat, c < 72 ∨ 84 < c → M' c = M c) → BkR M' B → Nt M' B s → Gr M' B s (cnt B s kn) → kv M') : Bv (wX2_load s kn M) kv := by
  apply Bv.of; unfold wX2_load
  refine b_load h hs (fun M1 k1 k2 k3 k4 => ?_)
  refine b_cx k3 k4 hkn ⟨25, ?_⟩
  have hg : FrG M1 (up (up M1 83 3 (cnt B s kn : Nat)) 83 4 0) := fun c q1 q2 q3 q4 => by rw [up_cell q3, up_cell q3]
  exact l_gl (cnt_lgs h.1 kn) (cnt_lt h.1) 25 0 _ (by omega) (by omega) (hg.book k3) (hg.net k4) (by rw [up_nei (by decide), up_eq]) up_eq (fun a ha => by omega) (fun M2 g1 g2 => hk M2 (fun c hc => by rw [g1 c (by omega) (by omega) (by omega) (by omega), up_cell (by omega), up_cell (by omega), k1 c (by omega)]) (g1.book (hg.book k3)) (g1.net (hg.net k4)) g2)
end Load
