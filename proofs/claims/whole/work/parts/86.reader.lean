/-! ===== the reader of the tape, pure; the class's ===== -/
abbrev lg (b : Nat → Int) (n S p : Nat) : Prop := tk b n p = 256 ∧ va b n p < 24 ∧ S.testBit (va b n p).toNat = true
def rgR (b : Nat → Int) (n : Nat) (g : Nat → Nat) (fr : Nat) : Nat → Nat → Nat → Nat × Nat
  | 0, _, p => (0, p)
  | k + 1, x, p => if lg b n (sd fr x) p ∧ sd x (g (va b n p).toNat) = 0 then (if tk b n (nx b n p) = 44 then rgR b n g fr k (x ||| 2 ^ (va b n p).toNat) (nx b n (nx b n p)) else if tk b n (nx b n p) = 59 then (x ||| 2 ^ (va b n p).toNat, nx b n (nx b n p)) else (0, nx b n p)) else (0, p)
def rfin (b : Nat → Int) (n : Nat) (wt : Nat → Int) (W : Int) (fr : Nat) (a : Int) (p : Nat) : Bool × Nat := if a + SF wt fr ≤ W then (if tk b n p = 93 then (true, nx b n p) else (false, p)) else (false, p)
def rsR (b : Nat → Int) (n : Nat) (g : Nat → Nat) (wt : Nat → Int) (W : Int) : Nat → Nat → Int → Nat → Bool × Nat
  | 0, fr, a, p => rfin b n wt W fr a p
  | k + 1, fr, a, p => if tk b n p = 93 then rfin b n wt W fr a p else if (rgR b n g fr 24 0 p).1 = 0 then (false, (rgR b n g fr 24 0 p).2) else rsR b n g wt W k (sd fr (rgR b n g fr 24 0 p).1) (a + mxR wt (rgR b n g fr 24 0 p).1 24) (rgR b n g fr 24 0 p).2
def rqa (r : Bool × Nat) (k : Nat → Bool × Nat) : Bool × Nat := if r.1 = true then k r.2 else r
def rqb (b : Nat → Int) (n : Nat) (r : Bool × Nat) : Bool × Nat := if r.1 = true then (if tk b n r.2 = 41 then (true, nx b n r.2) else (false, r.2)) else r
theorem rqa_t {r : Bool × Nat} {k : Nat → Bool × Nat} (h : r.1 = true) : rqa r k = k r.2 := if_pos h
theorem rqa_f {r : Bool × Nat} {k : Nat → Bool × Nat} (h : ¬ r.1 = true) : rqa r k = r := if_neg h
def rpR (b : Nat → Int) (n : Nat) (g : Nat → Nat) (wt : Nat → Int) (W : Int) : Nat → Nat → Int → Nat → Nat → Bool × Nat
  | 0, _, _, _, p => (false, p)
  | f + 1, O, h, d, p => if 24 < d then (false, p) else if tk b n p = 91 then rsR b n g wt W 24 O h (nx b n p) else if tk b n p = 40 then (if lg b n O (nx b n p) then rqa (rpR b n g wt W f (sd (sd O (2 ^ (va b n (nx b n p)).toNat)) (g (va b n (nx b n p)).toNat)) (h + wt (va b n (nx b n p)).toNat) (d + 1) (nx b n (nx b n p))) (fun q => rqb b n (rpR b n g wt W f (sd O (2 ^ (va b n (nx b n p)).toNat)) h (d + 1) q)) else (false, nx b n p)) else (false, p)
theorem tJ1 {P Q : Prop} (h : Q) : inR 1 ∧ (if (1 : Int) = 0 then P else Q) := ⟨inR1, by rw [if_neg (by decide)]; exact h⟩
theorem tJ0 {P Q : Prop} (h : P) : inR 0 ∧ (if (0 : Int) = 0 then P else Q) := ⟨inR0, by rw [if_pos rfl]; exact h⟩
section Rd
variable {b : Nat → Int} {n : Nat} {g : Nat → Nat} {wt : Nat → Int} {W : Int} {U fr : Nat}
theorem sub_or {x l : Nat} (hx : subs x fr) (hl : fr.testBit l = true) : subs (x ||| 2 ^ l) fr := fun i hi => by
  rw [orb] at hi
  rcases hi with hi | hi
  · exact hx i hi
  · subst hi; exact hl
theorem sub_sd {x y : Nat} (hf : fr < 16777216) (h : subs fr x) : subs (sd fr y) x := fun i hi => h i ((sd_bit hf).mp hi).1
theorem vl_lt {p : Nat} (h : va b n p < 24) : (va b n p).toNat < 24 ∧ va b n p = ((va b n p).toNat : Int) := by
  have := va_range (b := b) (n := n) (p := p)
  omega
theorem rgR_spec (hf : fr < 16777216) : ∀ (k x p : Nat), p ≤ n → x < 16777216 → subs x fr → (rgR b n g fr k x p).2 ≤ n ∧ (rgR b n g fr k x p).1 < 16777216 ∧ subs (rgR b n g fr k x p).1 fr
  | 0, x, p, hp, _, _ => ⟨hp, by show 0 < 16777216; omega, fun i h => by have h : (0 : Nat).testBit i = true := h; rw [Nat.zero_testBit] at h; exact absurd h (by decide)⟩
  | k + 1, x, p, hp, hx, hs => by
    have n1 := (nx_range (b := b) hp).2
    have n2 := (nx_range (b := b) n1).2
    have z : ∀ q : Nat, q ≤ n → ((0 : Nat), q).2 ≤ n ∧ ((0 : Nat), q).1 < 16777216 ∧ subs ((0 : Nat), q).1 fr := fun q hq => ⟨hq, by show 0 < 16777216; omega, fun i h => by have h : (0 : Nat).testBit i = true := h; rw [Nat.zero_testBit] at h; exact absurd h (by decide)⟩
    unfold rgR
    by_cases c : lg b n (sd fr x) p ∧ sd x (g (va b n p).toNat) = 0
    · rw [if_pos c]
      have hv := vl_lt c.1.2.1
      have hl := ((sd_bit hf).mp c.1.2.2).1
      by_cases c2 : tk b n (nx b n p) = 44
      · rw [if_pos c2]
        exact rgR_spec hf k _ _ n2 (or_lt hx hv.1) (sub_or hs hl)
      · rw [if_neg c2]
        by_cases c3 : tk b n (nx b n p) = 59
        · rw [if_pos c3]; exact ⟨n2, or_lt hx hv.1, sub_or hs hl⟩
        · rw [if_neg c3]; exact z _ n1
    · rw [if_neg c]; exact z _ hp
theorem rfin_le {a : Int} {p : Nat} (hp : p ≤ n) : (rfin b n wt W fr a p).2 ≤ n := by
  have n1 := (nx_range (b := b) hp).2
  unfold rfin
  by_cases c : a + SF wt fr ≤ W
  · rw [if_pos c]
    by_cases c2 : tk b n p = 93
    · rw [if_pos c2]; exact n1
    · rw [if_neg c2]; exact hp
  · rw [if_neg c]; exact hp
theorem rsR_le : ∀ (k fr : Nat) (a : Int) (p : Nat), p ≤ n → fr < 16777216 → (rsR b n g wt W k fr a p).2 ≤ n
  | 0, fr, a, p, hp, hf => rfin_le hp
  | k + 1, fr, a, p, hp, hf => by
    have r := rgR_spec (b := b) (g := g) hf 24 0 p hp (by omega) (fun i h => by rw [Nat.zero_testBit] at h; exact absurd h (by decide))
    unfold rsR
    by_cases c : tk b n p = 93
    · rw [if_pos c]; exact rfin_le hp
    · rw [if_neg c]
      by_cases c2 : (rgR b n g fr 24 0 p).1 = 0
      · rw [if_pos c2]; exact r.1
      · rw [if_neg c2]; exact rsR_le k _ _ _ r.1 sd_lt
theorem rpR_le : ∀ (f O : Nat) (h : Int) (d p : Nat), p ≤ n → O < 16777216 → (rpR b n g wt W f O h d p).2 ≤ n
  | 0, O, h, d, p, hp, _ => hp
  | f + 1, O, h, d, p, hp, hO => by
    have n1 := (nx_range (b := b) hp).2
    have n2 := (nx_range (b := b) n1).2
    unfold rpR
    by_cases c0 : 24 < d
    · rw [if_pos c0]; exact hp
    rw [if_neg c0]
    by_cases c1 : tk b n p = 91
    · rw [if_pos c1]; exact rsR_le _ _ _ _ n1 hO
    rw [if_neg c1]
    by_cases c2 : tk b n p = 40
    · rw [if_pos c2]
      by_cases c3 : lg b n O (nx b n p)
      · rw [if_pos c3]
        have i1 := rpR_le f (sd (sd O (2 ^ (va b n (nx b n p)).toNat)) (g (va b n (nx b n p)).toNat)) (h + wt (va b n (nx b n p)).toNat) (d + 1) (nx b n (nx b n p)) n2 sd_lt
        generalize rpR b n g wt W f (sd (sd O (2 ^ (va b n (nx b n p)).toNat)) (g (va b n (nx b n p)).toNat)) (h + wt (va b n (nx b n p)).toNat) (d + 1) (nx b n (nx b n p)) = r1 at *
        by_cases z : r1.1 = true
        · rw [rqa_t z]
          have i2 := rpR_le f (sd O (2 ^ (va b n (nx b n p)).toNat)) h (d + 1) _ i1 sd_lt
          unfold rqb
          generalize rpR b n g wt W f (sd O (2 ^ (va b n (nx b n p)).toNat)) h (d + 1) r1.2 = r2 at *
          by_cases z2 : r2.1 = true
          · rw [if_pos z2]
            by_cases z3 : tk b n r2.2 = 41
            · rw [if_pos z3]; exact (nx_range (b := b) i2).2
            · rw [if_neg z3]; exact i2
          · rw [if_neg z2]; exact i2
        · rw [rqa_f z]; exact i1
      · rw [if_neg c3]; exact n1
    · rw [if_neg c2]; exact hp
/-! alike graphs read alike -/
theorem rgR_al {g1 g2 : Nat → Nat} (h : alike g1 g2 U) (hf : fr < 16777216) (hU : subs fr U) : ∀ (k x p : Nat), subs x fr → rgR b n g1 fr k x p = rgR b n g2 fr k x p
  | 0, x, p, _ => rfl
  | k + 1, x, p, hs => by
    unfold rgR
    by_cases c : lg b n (sd fr x) p
    · have hl := ((sd_bit hf).mp c.2.2).1
      have e := sd_al h (x := x) (i := (va b n p).toNat) (fun i hi => hU i (hs i hi)) (hU _ hl)
      rw [e, rgR_al h hf hU k (x ||| 2 ^ (va b n p).toNat) (nx b n (nx b n p)) (sub_or hs hl)]
    · rw [if_neg (fun z => c z.1), if_neg (fun z => c z.1)]
theorem rsR_al {g1 g2 : Nat → Nat} (h : alike g1 g2 U) : ∀ (k fr : Nat) (a : Int) (p : Nat), fr < 16777216 → subs fr U → rsR b n g1 wt W k fr a p = rsR b n g2 wt W k fr a p
  | 0, fr, a, p, _, _ => rfl
  | k + 1, fr, a, p, hf, hU => by
    have e := rgR_al (b := b) (n := n) h hf hU 24 0 p (fun i h => by rw [Nat.zero_testBit] at h; exact absurd h (by decide))
    unfold rsR
    rw [e, rsR_al h k (sd fr (rgR b n g2 fr 24 0 p).1) (a + mxR wt (rgR b n g2 fr 24 0 p).1 24) (rgR b n g2 fr 24 0 p).2 sd_lt (sub_sd hf hU)]
theorem rpR_al {g1 g2 : Nat → Nat} (h : alike g1 g2 U) : ∀ (f O : Nat) (v : Int) (d p : Nat), O < 16777216 → subs O U → rpR b n g1 wt W f O v d p = rpR b n g2 wt W f O v d p
  | 0, O, v, d, p, _, _ => rfl
  | f + 1, O, v, d, p, hO, hU => by
    unfold rpR
    rw [rsR_al h 24 O v (nx b n p) hO hU]
    by_cases c : lg b n O (nx b n p)
    · have e := sd_al h (x := sd O (2 ^ (va b n (nx b n p)).toNat)) (i := (va b n (nx b n p)).toNat) (sub_sd hO hU) (hU _ c.2.2)
      rw [e, rpR_al h f (sd (sd O (2 ^ (va b n (nx b n p)).toNat)) (g2 (va b n (nx b n p)).toNat)) (v + wt (va b n (nx b n p)).toNat) (d + 1) (nx b n (nx b n p)) sd_lt (sub_sd sd_lt (sub_sd hO hU))]
      have e2 : (fun q => rqb b n (rpR b n g1 wt W f (sd O (2 ^ (va b n (nx b n p)).toNat)) v (d + 1) q)) = (fun q => rqb b n (rpR b n g2 wt W f (sd O (2 ^ (va b n (nx b n p)).toNat)) v (d + 1) q)) := funext fun q => by rw [rpR_al h f (sd O (2 ^ (va b n (nx b n p)).toNat)) v (d + 1) q sd_lt (sub_sd hO hU)]
      rw [e2]
    · rw [if_neg c, if_neg c]
/-! the class -/
def FrF (M M' : Mm) : Prop := (∀ c : Nat, c ≠ 88 → M' c = M c) ∧ ∀ i, i ≠ 3 → i ≠ 5 → i ≠ 6 → i ≠ 7 → i ≠ 8 → M' 88 i = M 88 i
theorem FrT.toF {M M' : Mm} (h : FrT M M') : FrF M M' := ⟨h.1, fun i _ a b c d => h.2 i a b c d⟩
theorem FrF.trans {M M1 M2 : Mm} (h1 : FrF M M1) (h2 : FrF M1 M2) : FrF M M2 := ⟨fun c a => (h2.1 c a).trans (h1.1 c a), fun i a b c d e => (h2.2 i a b c d e).trans (h1.2 i a b c d e)⟩
theorem FrF.u {M : Mm} {x : Int} : FrF M (up M 88 3 x) := ⟨fun c a => up_cell a, fun i a _ _ _ _ => up_nei a⟩
theorem FrT.gx {M M' : Mm} (h : FrT M M') (hg : Gx M g wt U) : Gx M' g wt U := hg.fr (h.1 84 (by decide)) (h.1 20 (by decide))
theorem FrT.s4 {M M' : Mm} (h : FrT M M') : M' 88 4 = M 88 4 := h.2 4 (by decide) (by decide) (by decide) (by decide)
variable {kv : Mm → Prop} {kk : Int → Mm → Prop} {A C : Mm → Prop} {p : Nat}
theorem tk_range {M : Mm} (hb : BT M b n) : -1 ≤ tk b n p ∧ tk b n p ≤ 256 := by
  unfold tk
  split
  · rename_i c
    have := hb.2.2 p c
    split <;> omega
  · omega
theorem b_fail {M : Mm} (ht : TS M b n p) (hk : ∀ M', FrF M M' → M' 88 3 = (p : Int) → kk 0 M') : Bd (wX10_fail M) kk := by
  apply Bd.of; unfold wX10_fail
  rw [ht.1]
  exact hk _ FrF.u up_eq
theorem b_stepT {M : Mm} (hb : BT M b n) (hp : p ≤ n) (ht : TS M b n p) (hk : ∀ M', FrT M M' → BT M' b n → TS M' b n (nx b n p) → kv M') : Bv (wX10_step M) kv := b_step hb (en_range (b := b) hp).2 ht.2.2.1 (fun M' h1 h2 => hk M' h1 (h1.bt hb) h2)
theorem b_expect {M : Mm} {c : Int} (hc : inR c) (hb : BT M b n) (hp : p ≤ n) (ht : TS M b n p) (h1 : tk b n p = c → ∀ M', FrT M M' → BT M' b n → TS M' b n (nx b n p) → kk 1 M') (h0 : tk b n p ≠ c → ∀ M', FrF M M' → M' 88 3 = (p : Int) → kk 0 M') : Bd (wX10_expect c M) kk := by
  have hr := tk_range (p := p) hb
  apply Bd.of; unfold wX10_expect
  rw [ht.2.1]
  refine ⟨(inRof ⟨by omega, by omega⟩), hc, ?_⟩
  by_cases q : tk b n p = c
  · rw [if_pos q]; exact b_stepT hb hp ht (h1 q)
  · rw [if_neg q]; exact b_fail ht (fun M' f e => ⟨Or.inl rfl, h0 q M' f e⟩)
theorem i_logOf {M : Mm} {S : Nat} (hb : BT M b n) (ht : TS M b n p) (hS : S < 16777216) (h1 : lg b n S p → C M) (h0 : ¬ lg b n S p → A M) : Bd (wX10_isLogOf (S : Int) M) (fun r M => inR r ∧ (if r = 0 then A M else C M)) := by
  have hr := tk_range (p := p) hb
  have hv := va_range (b := b) (n := n) (p := p)
  apply Bd.of; unfold wX10_isLogOf
  rw [ht.2.1]
  refine ⟨(inRof ⟨by omega, by omega⟩), ?_⟩
  by_cases q : tk b n p = 256
  · rw [if_pos q, ht.2.2.2 q]
    refine ⟨(inRof ⟨by omega, by omega⟩), ?_⟩
    by_cases q2 : va b n p < 24
    · rw [if_pos q2]
      have hl := vl_lt q2
      have hb' := bit01 (n := S) (j := (va b n p).toNat) (by omega) (by omega)
      rw [← hl.2] at hb'
      by_cases q3 : S.testBit (va b n p).toNat = true
      · rw [if_pos (hb'.1.mpr q3)]; exact tJ1 (h1 ⟨q, q2, q3⟩)
      · rw [if_neg (fun z => q3 (hb'.1.mp z))]; exact tJ0 (h0 (fun z => q3 z.2.2))
    · rw [if_neg q2]; exact tJ0 (h0 (fun z => q2 z.2.1))
  · rw [if_neg q]; exact tJ0 (h0 (fun z => q z.1))
theorem l_rg {Q : Int → Mm → Prop} (hf : fr < 16777216) (hU : subs fr U) : ∀ (k x p : Nat) (M : Mm), k ≤ 24 → p ≤ n → x < 16777216 → subs x fr → Gx M g wt U → BT M b n → TS M b n p → ((rgR b n g fr k x p).1 ≠ 0 → ∀ M', FrT M M' → BT M' b n → TS M' b n (rgR b n g fr k x p).2 → Q ((rgR b n g fr k x p).1 : Nat) M') → ((rgR b n g fr k x p).1 = 0 → ∀ M', FrF M M' → M' 88 3 = ((rgR b n g fr k x p).2 : Nat) → Q 0 M') → wX10_readGroup_4 Q (fr : Int) (k + 1) (x : Int) (24 - (k : Int)) M := by
  intro k
  induction k with
  | zero =>
    intro x p M hk24 hp hx hs hg hb ht h1 h0
    unfold wX10_readGroup_4
    refine ⟨(inRof ⟨by omega, by omega⟩), ?_⟩
    rw [if_neg (by omega)]
    unfold wX10_readGroup_95
    exact b_fail ht (fun M' f e => h0 rfl M' f e)
  | succ k ih =>
    intro x p M hk24 hp hx hs hg hb ht h1 h0
    unfold wX10_readGroup_4
    have n1 := (nx_range (b := b) hp).2
    have n2 := (nx_range (b := b) n1).2
    refine ⟨(inRof ⟨by omega, by omega⟩), ?_⟩
    rw [if_pos (by omega), andnotN hf hx]
    unfold rgR at h1 h0
    have bad : ¬ (lg b n (sd fr x) p ∧ sd x (g (va b n p).toNat) = 0) → wX10_readGroup_41 Q M := by
      intro c
      rw [if_neg c] at h0
      unfold wX10_readGroup_41
      exact b_fail ht (fun M' f e => h0 rfl M' f e)
    refine i_logOf hb ht sd_lt (fun c1 => ?_) (fun c1 => bad (fun z => c1 z.1))
    have hv := vl_lt c1.2.1
    have hg8 := hg.1 (va b n p).toNat hv.1
    rw [ht.2.2.2 c1.1, hv.2, hg8.1, andnotN hx hg8.2]
    refine ⟨⟨by omega, by omega⟩, ?_⟩
    by_cases c2 : sd x (g (va b n p).toNat) = 0
    · rw [if_pos (by omega)]
      rw [if_pos ⟨c1, c2⟩] at h1 h0
      have hl := ((sd_bit hf).mp c1.2.2).1
      have hp2 := pow24 hv.1
      refine b_stepT hb hp ht (fun M1 f1 hb1 ht1 => ?_)
      have hr := tk_range (p := nx b n p) hb
      rw [ht1.2.1, shl1 (by omega), lorN (by omega) (by omega)]
      refine ⟨(inRof ⟨by omega, by omega⟩), ?_⟩
      by_cases c3 : tk b n (nx b n p) = 44
      · rw [if_pos c3]
        rw [if_pos c3] at h1 h0
        refine b_stepT hb1 n1 ht1 (fun M2 f2 hb2 ht2 => ?_)
        rw [show 24 - ((k + 1 : Nat) : Int) + 1 = 24 - (k : Int) by omega]
        exact ih (x ||| 2 ^ (va b n p).toNat) _ M2 (by omega) n2 (or_lt hx hv.1) (sub_or hs hl) (f2.gx (f1.gx hg)) hb2 ht2 (fun z M3 f3 => h1 z M3 ((f1.trans f2).trans f3)) (fun z M3 f3 => h0 z M3 ((f1.trans f2).toF.trans f3))
      · rw [if_neg c3]
        rw [if_neg c3] at h1 h0
        unfold wX10_readGroup_70
        refine b_expect (inRl (by decide)) hb1 n1 ht1 (fun c4 M2 f2 hb2 ht2 => tJ1 ?_) (fun c4 M2 f2 e2 => tJ0 ?_)
        · rw [if_pos c4] at h1
          refine h1 ?_ M2 (f1.trans f2) hb2 ht2
          intro z
          have z2 : (x ||| 2 ^ (va b n p).toNat).testBit (va b n p).toNat = true := orb.mpr (Or.inr rfl)
          have z3 : x ||| 2 ^ (va b n p).toNat = 0 := z
          rw [z3, Nat.zero_testBit] at z2
          exact absurd z2 (by decide)
        · rw [if_neg c4] at h0
          exact h0 rfl M2 (f1.toF.trans f2) e2
    · rw [if_neg (by omega)]
      exact bad (fun z => c2 z.2)
theorem l_rs69 {M : Mm} {Q : Int → Mm → Prop} {a : Int} (hf : fr < 16777216) (hU : subs fr U) (hp : p ≤ n) (hW : inR W) (ha : 0 ≤ a ∧ a ≤ 10000) (hg : Gx M g wt U) (hb : BT M b n) (ht : TS M b n p) (h4 : M 88 4 = W) (h1 : (rfin b n wt W fr a p).1 = true → ∀ M', FrT M M' → BT M' b n → TS M' b n (rfin b n wt W fr a p).2 → Q 1 M') (h0 : (rfin b n wt W fr a p).1 = false → ∀ M', FrF M M' → M' 88 3 = ((rfin b n wt W fr a p).2 : Nat) → Q 0 M') : wX10_readGroups_69 Q (fr : Int) a M := by
  have hw := W_range (wt := wt) hU (fun i hi => (hg.2.1 i hi).2)
  unfold wX10_readGroups_69
  refine b_aw hg hU hf ?_
  rw [h4]
  refine ⟨(inRof ⟨by omega, by omega⟩), hW, ?_⟩
  unfold rfin at h1 h0
  by_cases c : a + SF wt fr ≤ W
  · rw [if_pos c]
    rw [if_pos c] at h1 h0
    refine b_expect (inRl (by decide)) hb hp ht (fun c2 M1 f1 hb1 ht1 => ⟨Or.inr rfl, ?_⟩) (fun c2 M1 f1 e1 => ⟨Or.inl rfl, ?_⟩)
    · rw [if_pos c2] at h1; exact h1 rfl M1 f1 hb1 ht1
    · rw [if_neg c2] at h0; exact h0 rfl M1 f1 e1
  · rw [if_neg c]
    rw [if_neg c] at h0
    exact b_fail ht (fun M1 f1 e1 => ⟨Or.inl rfl, h0 rfl M1 f1 e1⟩)
theorem l_rs {Q : Int → Mm → Prop} (hW : inR W) : ∀ (k fr p : Nat) (a : Int) (M : Mm), k ≤ 24 → fr < 16777216 → subs fr U → p ≤ n → (0 ≤ a ∧ a + 100 * (k : Int) ≤ 10000) → Gx M g wt U → BT M b n → TS M b n p → M 88 4 = W → ((rsR b n g wt W k fr a p).1 = true → ∀ M', FrT M M' → BT M' b n → TS M' b n (rsR b n g wt W k fr a p).2 → Q 1 M') → ((rsR b n g wt W k fr a p).1 = false → ∀ M', FrF M M' → M' 88 3 = ((rsR b n g wt W k fr a p).2 : Nat) → Q 0 M') → wX10_readGroups_12 Q (k + 1) (fr : Int) a (24 - (k : Int)) M := by
  intro k
  induction k with
  | zero =>
    intro fr p a M hk24 hf hU hp ha hg hb ht h4 h1 h0
    unfold wX10_readGroups_12
    refine ⟨(inRof ⟨by omega, by omega⟩), ?_⟩
    rw [if_neg (by omega)]
    exact l_rs69 hf hU hp hW (by omega) hg hb ht h4 h1 h0
  | succ k ih =>
    intro fr p a M hk24 hf hU hp ha hg hb ht h4 h1 h0
    unfold wX10_readGroups_12
    have hr := tk_range (p := p) hb
    refine ⟨(inRof ⟨by omega, by omega⟩), ?_⟩
    rw [if_pos (by omega), ht.2.1]
    refine ⟨(inRof ⟨by omega, by omega⟩), ?_⟩
    unfold rsR at h1 h0
    by_cases c : tk b n p = 93
    · rw [if_pos c]
      rw [if_pos c] at h1 h0
      exact l_rs69 hf hU hp hW (by omega) hg hb ht h4 h1 h0
    · rw [if_neg c]
      rw [if_neg c] at h1 h0
      apply Bd.of; unfold wX10_readGroup
      have hs0 : subs 0 fr := fun i h => by rw [Nat.zero_testBit] at h; exact absurd h (by decide)
      have sp := rgR_spec (b := b) (g := g) hf 24 0 p hp (by omega) hs0
      refine ⟨25, l_rg (Q := fun r7 M8 => inR r7 ∧ (if r7 = 0 then Q 0 M8 else Bd (wX2_greatestWorth r7 M8) (fun r13 M14 => wX10_readGroups_12 Q (k + 1) (landI (fr : Int) (lxorI r7 (-1))) (a + r13) (24 - ((k + 1 : Nat) : Int) + 1) M14))) hf hU 24 0 p M (by omega) hp (by omega) hs0 hg hb ht (fun z M1 f1 hb1 ht1 => ⟨(inRof ⟨by omega, by omega⟩), ?_⟩) (fun z M1 f1 e1 => ⟨inR0, ?_⟩)⟩
      · rw [if_neg (by omega)]
        rw [if_neg z] at h1 h0
        have hsU : subs (rgR b n g fr 24 0 p).1 U := fun i hi => hU i (sp.2.2 i hi)
        have m0 := mxR_nonneg (f := wt) (x := (rgR b n g fr 24 0 p).1) 24
        have m1 := mxR_le (f := wt) (x := (rgR b n g fr 24 0 p).1) (C := 100) (by omega) 24 (fun i _ hi => (hg.2.1 i (hsU i hi)).2.2)
        refine b_gw (f1.gx hg) hsU sp.2.1 ?_
        rw [andnotN hf sp.2.1, show 24 - ((k + 1 : Nat) : Int) + 1 = 24 - (k : Int) by omega]
        exact ih _ _ _ M1 (by omega) sd_lt (sub_sd hf hU) sp.1 (by omega) (f1.gx hg) hb1 ht1 (by rw [f1.s4]; exact h4) (fun z M3 f3 => h1 z M3 (f1.trans f3)) (fun z M3 f3 => h0 z M3 (f1.toF.trans f3))
      · rw [if_pos rfl]
        rw [if_pos z] at h0
        exact h0 rfl M1 f1 e1
theorem b_rp (hW : inR W) : ∀ (f O d p : Nat) (v : Int) (M : Mm) (kk : Int → Mm → Prop), 31 ≤ f + d → O < 16777216 → subs O U → p ≤ n → (d ≤ 25 ∧ 0 ≤ v ∧ v ≤ 100 * (d : Int)) → Gx M g wt U → BT M b n → TS M b n p → M 88 4 = W → ((rpR b n g wt W f O v d p).1 = true → ∀ M', FrT M M' → BT M' b n → TS M' b n (rpR b n g wt W f O v d p).2 → kk 1 M') → ((rpR b n g wt W f O v d p).1 = false → ∀ M', FrF M M' → M' 88 3 = ((rpR b n g wt W f O v d p).2 : Nat) → kk 0 M') → Bd (wX10_readProof f (O : Int) v (d : Int) M) kk := by
  intro f
  induction f with
  | zero => intro O d p v M kk hfd hO hU hp hv; omega
  | succ f ih =>
    intro O d p v M kk hfd hO hU hp hv hg hb ht h4 h1 h0
    apply Bd.of; unfold wX10_readProof
    have n1 := (nx_range (b := b) hp).2
    have n2 := (nx_range (b := b) n1).2
    have hr := tk_range (p := p) hb
    refine ⟨(inRof ⟨by omega, by omega⟩), ?_⟩
    unfold rpR at h1 h0
    by_cases c0 : 24 < d
    · rw [if_neg (by omega)]
      rw [if_pos c0] at h0
      exact b_fail ht (fun M1 f1 e1 => ⟨Or.inl rfl, h0 rfl M1 f1 e1⟩)
    rw [if_pos (by omega), ht.2.1]
    rw [if_neg c0] at h1 h0
    refine ⟨(inRof ⟨by omega, by omega⟩), ?_⟩
    by_cases c1 : tk b n p = 91
    · rw [if_pos c1]
      rw [if_pos c1] at h1 h0
      apply Bd.of; unfold wX10_readGroups
      refine b_stepT hb hp ht (fun M1 f1 hb1 ht1 => ⟨25, ?_⟩)
      have := l_rs (Q := fun r7 M8 => (r7 = 0 ∨ r7 = 1) ∧ kk r7 M8) (g := g) (wt := wt) (U := U) hW 24 O (nx b n p) v M1 (by omega) hO hU n1 (by omega) (f1.gx hg) hb1 ht1 (by rw [f1.s4]; exact h4) (fun z M3 f3 hb3 ht3 => ⟨Or.inr rfl, h1 z M3 (f1.trans f3) hb3 ht3⟩) (fun z M3 f3 e3 => ⟨Or.inl rfl, h0 z M3 (f1.toF.trans f3) e3⟩)
      exact this
    rw [if_neg c1]
    rw [if_neg c1] at h1 h0
    refine b_expect (inRl (by decide)) hb hp ht (fun c2 M1 f1 hb1 ht1 => tJ1 ?_) (fun c2 M1 f1 e1 => tJ0 ?_)
    · rw [if_pos c2] at h1 h0
      refine i_logOf hb1 ht1 hO (fun c3 => ?_) (fun c3 => ?_)
      · rw [if_pos c3] at h1 h0
        have hv1 := vl_lt c3.2.1
        have e8 := ht1.2.2.2 c3.1
        have hw := hg.2.1 _ (hU _ c3.2.2)
        have hp2 := pow24 hv1.1
        have hbit := c3.2.2
        generalize hl : (va b n (nx b n p)).toNat = l at *
        rw [hv1.2] at e8
        refine b_stepT hb1 n1 ht1 (fun M2 f2 hb2 ht2 => ?_)
        have f12 := f1.trans f2
        have hg2 := f12.gx hg
        rw [e8, (hg2.1 l hv1.1).1, (hg2.2.1 l (hU l hbit)).1, shl1 (by omega), andnotN hO hp2, andnotN sd_lt (hg2.1 l hv1.1).2]
        refine ⟨⟨by omega, by omega⟩, ?_⟩
        have i1 := rpR_le (b := b) (g := g) (wt := wt) (W := W) f (sd (sd O (2 ^ l)) (g l)) (v + wt l) (d + 1) (nx b n (nx b n p)) n2 sd_lt
        rw [show (d : Int) + 1 = ((d + 1 : Nat) : Int) by omega]
        refine ih _ (d + 1) _ (v + wt l) M2 _ (by omega) sd_lt (sub_sd sd_lt (sub_sd hO hU)) n2 (by omega) hg2 hb2 ht2 (by rw [f12.s4]; exact h4) (fun z M3 f3 hb3 ht3 => tJ1 ?_) (fun z M3 f3 e3 => tJ0 ?_)
        · rw [rqa_t z] at h1 h0
          have f123 := f12.trans f3
          have i2 := rpR_le (b := b) (g := g) (wt := wt) (W := W) f (sd O (2 ^ l)) v (d + 1) _ i1 sd_lt
          unfold rqb at h1 h0
          refine ih _ (d + 1) _ v M3 _ (by omega) sd_lt (sub_sd hO hU) i1 (by omega) (f123.gx hg) hb3 ht3 (by rw [f123.s4]; exact h4) (fun z2 M4 f4 hb4 ht4 => tJ1 ?_) (fun z2 M4 f4 e4 => tJ0 ?_)
          · rw [if_pos z2] at h1 h0
            refine b_expect (inRl (by decide)) hb4 i2 ht4 (fun c5 M5 f5 hb5 ht5 => tJ1 ?_) (fun c5 M5 f5 e5 => tJ0 ?_)
            · rw [if_pos c5] at h1
              exact h1 rfl M5 ((f123.trans f4).trans f5) hb5 ht5
            · rw [if_neg c5] at h0
              exact h0 rfl M5 ((f123.trans f4).toF.trans f5) e5
          · rw [if_neg (by rw [z2]; decide)] at h0
            exact h0 z2 M4 (f123.toF.trans f4) e4
        · rw [rqa_f (by rw [z]; decide)] at h0
          exact h0 z M3 (f12.toF.trans f3) e3
      · rw [if_neg c3] at h0
        exact b_fail ht1 (fun M2 f2 e2 => ⟨Or.inl rfl, h0 rfl M2 (f1.toF.trans f2) e2⟩)
    · rw [if_neg c2] at h0
      exact h0 rfl M1 f1 e1
/-- the whole tape -/
def rall (b : Nat → Int) (n : Nat) (r : Bool × Nat) : Bool × Nat := if r.1 = true then (if tk b n r.2 = -1 then (true, r.2) else (false, r.2)) else r
theorem b_holds {M : Mm} {S : Nat} (hW : inR W) (hg : Gx M g wt U) (hU : M 83 4 = (U : Int)) (hb : BT M b n) (h1 : (rall b n (rpR b n g wt W 30 U 0 1 (sk b n 0))).1 = true → ∀ M', (∀ c : Nat, c ≠ 88 → M' c = M c) → M' 88 2 = M 88 2 → M' 88 3 = -1 → kk 1 M') (h0 : (rall b n (rpR b n g wt W 30 U 0 1 (sk b n 0))).1 = false → ∀ M', (∀ c : Nat, c ≠ 88 → M' c = M c) → M' 88 2 = M 88 2 → M' 88 3 = (((rall b n (rpR b n g wt W 30 U 0 1 (sk b n 0))).2 : Nat) : Int) → kk 0 M') : Bd (wX10_holdsProof W M) kk := by
  apply Bd.of; unfold wX10_holdsProof
  have hb0 : BT (up (up (up M 88 4 W) 88 5 0) 88 3 (-1)) b n := by
    unfold BT
    rw [up_nei (by decide), up_nei (by decide), up_nei (by decide), up_cell (show 89 ≠ 88 by decide), up_cell (show 89 ≠ 88 by decide), up_cell (show 89 ≠ 88 by decide)]
    exact hb
  have k0 := (sk_range (b := b) (Nat.zero_le n)).2
  have i1 := rpR_le (b := b) (g := g) (wt := wt) (W := W) 30 U 0 1 (sk b n 0) k0 hg.2.2
  refine b_step (p := 0) hb0 (Nat.zero_le n) (by rw [up_nei (by decide), up_eq]; rfl) (fun M1 f1 t1 => ?_)
  have g1 : ∀ c : Nat, c ≠ 88 → M1 c = M c := fun c hc => by rw [f1.1 c hc, up_cell hc, up_cell hc, up_cell hc]
  have s2 : M1 88 2 = M 88 2 := by rw [f1.2 2 (by decide) (by decide) (by decide) (by decide), up_nei (by decide), up_nei (by decide), up_nei (by decide)]
  have s3 : M1 88 3 = -1 := by rw [f1.2 3 (by decide) (by decide) (by decide) (by decide), up_eq]
  have s4 : M1 88 4 = W := by rw [f1.2 4 (by decide) (by decide) (by decide) (by decide), up_nei (by decide), up_nei (by decide), up_eq]
  rw [g1 83 (by decide), hU]
  have hb1 := f1.bt hb0
  refine b_rp (b := b) (n := n) (g := g) (wt := wt) (U := U) hW 30 U 1 (sk b n 0) 0 M1 _ (by omega) hg.2.2 (fun _ z => z) k0 (by omega) (hg.fr (g1 84 (by decide)) (g1 20 (by decide))) hb1 t1 s4 (fun z M2 f2 hb2 ht2 => tJ1 ?_) (fun z M2 f2 e2 => tJ0 ?_)
  · unfold rall at h1 h0
    rw [if_pos z] at h1 h0
    refine b_expect (inRl (by decide)) hb2 i1 ht2 (fun c M3 f3 hb3 ht3 => tJ1 ?_) (fun c M3 f3 e3 => tJ0 ?_)
    · rw [if_pos c] at h1
      have f23 := f2.trans f3
      exact h1 rfl M3 (fun c hc => by rw [f23.1 c hc, g1 c hc]) (by rw [f23.2 2 (by decide) (by decide) (by decide) (by decide), s2]) (by rw [f23.2 3 (by decide) (by decide) (by decide) (by decide), s3])
    · rw [if_neg c] at h0
      have f23 := f2.toF.trans f3
      exact h0 rfl M3 (fun c hc => by rw [f23.1 c hc, g1 c hc]) (by rw [f23.2 2 (by decide) (by decide) (by decide) (by decide) (by decide), s2]) e3
  · unfold rall at h0
    rw [if_neg (by rw [z]; decide)] at h0
    exact h0 z M2 (fun c hc => by rw [f2.1 c hc, g1 c hc]) (by rw [f2.2 2 (by decide) (by decide) (by decide) (by decide) (by decide), s2]) e2
end Rd
