/-! ===== Chooser.search ===== -/
def cnd (g : Nat → Nat) (O T : Nat) : Prop := subs T O ∧ ind g T
/-- what a search leaves -/
def Res (K : Nat → Int) (g : Nat → Nat) (O ch : Nat) (v b : Int) (bs : Nat) (b' : Int) (bs' : Nat) : Prop := (b' = b ∧ bs' = bs ∧ ∀ T, cnd g O T → v + K T ≤ b) ∨ (∃ T, cnd g O T ∧ b' = v + K T ∧ bs' = ch ||| T ∧ b < b' ∧ ∀ T', cnd g O T' → v + K T' ≤ b')
section Search
variable {f : Nat → Int} {g : Nat → Nat} {wt : Nat → Int} {U O T : Nat}
theorem pcR_sub {A C : Nat} (h : subs A C) : ∀ n : Nat, pcR A n ≤ pcR C n
  | 0 => Nat.le_refl _
  | n + 1 => by
    have ih := pcR_sub h n
    unfold pcR
    by_cases q : A.testBit n = true
    · rw [if_pos q, if_pos (h n q)]; omega
    · rw [if_neg q]; omega
theorem pcR_less {A C l : Nat} (h : subs A C) (hl : C.testBit l = true) (hn : ¬ A.testBit l = true) : ∀ n : Nat, l < n → pcR A n < pcR C n
  | 0, h0 => by omega
  | n + 1, h0 => by
    unfold pcR
    by_cases e : l = n
    · subst e
      have := pcR_sub h l
      rw [if_neg hn, if_pos hl]; omega
    · have ih := pcR_less h hl hn n (by omega)
      by_cases q : A.testBit n = true
      · rw [if_pos q, if_pos (h n q)]; omega
      · rw [if_neg q]; omega
theorem gpR_ind {fr j : Nat} (hi : ind g fr) (hj : fr.testBit j = true) (hl : j < 24) : ∀ (n i : Nat), i + n = 24 → gpR g fr n i (2 ^ j) = 2 ^ j
  | 0, _, _ => rfl
  | n + 1, i, h => by
    unfold gpR
    rw [if_neg]
    · exact gpR_ind hi hj hl n (i + 1) (by omega)
    · rintro ⟨q1, q2⟩
      exact hi i j q1 hj (sd_zero (pow24 hl) q2 (pow_bit.mpr rfl))
theorem mx_one {j : Nat} (hf : 0 ≤ f j) : ∀ n : Nat, mxR f (2 ^ j) n = if j < n then f j else 0
  | 0 => by rw [if_neg (by omega)]; rfl
  | n + 1 => by
    have ih := mx_one hf n
    unfold mxR
    by_cases q : j = n
    · subst q
      rw [if_pos (pow_bit.mpr rfl), ih, if_neg (by omega), if_pos (by omega)]
      omega
    · rw [if_neg (fun z => q (pow_bit.mp z)), ih]
      by_cases q2 : j < n
      · rw [if_pos q2, if_pos (by omega)]
      · rw [if_neg q2, if_neg (by omega)]
theorem sum_one {j : Nat} : ∀ n : Nat, sumF f (2 ^ j) n = if j < n then f j else 0
  | 0 => by rw [if_neg (by omega)]; rfl
  | n + 1 => by
    have ih := sum_one (j := j) n
    unfold sumF
    by_cases q : j = n
    · subst q
      rw [if_pos (pow_bit.mpr rfl), ih, if_neg (by omega), if_pos (by omega)]
      omega
    · rw [if_neg (fun z => q (pow_bit.mp z)), ih]
      by_cases q2 : j < n
      · rw [if_pos q2, if_pos (by omega)]
      · rw [if_neg q2, if_neg (by omega)]
/-- a log taken out of a set -/
theorem SF_out {l : Nat} (hT : T < 16777216) (hl : T.testBit l = true) : SF f T = f l + SF f (sd T (2 ^ l)) := by
  have h := sumF_add (f := f) (T := T) (A := 2 ^ l) (C := sd T (2 ^ l)) 24 (fun i _ => by
    rw [sd_bit hT, pow_bit]
    constructor
    · constructor
      · intro x
        by_cases e : l = i
        · exact Or.inl e
        · exact Or.inr ⟨x, e⟩
      · rintro (x | ⟨x, -⟩)
        · subst x; exact hl
        · exact x
    · rintro ⟨x, -, y⟩; exact y x)
  rw [sum_one, if_pos (bit_lt hT hl)] at h
  exact h
theorem SF_in {l : Nat} (hl : l < 24) (hn : ¬ T.testBit l = true) : SF f (T ||| 2 ^ l) = f l + SF f T := by
  have h := sumF_add (f := f) (T := T ||| 2 ^ l) (A := 2 ^ l) (C := T) 24 (fun i _ => by
    rw [orb, pow_bit]
    constructor
    · exact Or.comm
    · rintro ⟨x, y⟩; subst x; exact hn y)
  rw [sum_one, if_pos hl] at h
  exact h
theorem bnR_ind : ∀ (n j fr : Nat) (acc : Int), (∀ i, fr.testBit i = true → 0 ≤ f i) → j + n = 24 → fr < 16777216 → ind g fr → (∀ i, i < j → ¬ fr.testBit i = true) → bnR f g n j fr acc = acc + SF f fr
  | 0, j, fr, acc, hf, hj, hl, hi, hn => by
    have e : SF f fr = 0 := sumF_zero 24 (fun i h => hn i (by omega))
    rw [e]
    show acc = acc + 0
    omega
  | n + 1, j, fr, acc, hf, hj, hl, hi, hn => by
    unfold bnR
    by_cases q : fr.testBit j = true
    · rw [if_pos q]
      have e : gp g fr j = 2 ^ j := gpR_ind hi q (by omega) (23 - j) (j + 1) (by omega)
      rw [e, mx_one (hf j q), if_pos (by omega)]
      have ih := bnR_ind n (j + 1) (sd fr (2 ^ j)) (acc + f j) (fun i hi => hf i ((sd_bit hl).mp hi).1) (by omega) sd_lt (fun a b ha hb => hi a b ((sd_bit hl).mp ha).1 ((sd_bit hl).mp hb).1) (fun i h z => by
        have := (sd_bit hl).mp z
        by_cases e : i = j
        · subst e; exact this.2 (pow_bit.mpr rfl)
        · exact hn i (by omega) this.1)
      rw [ih, SF_out hl q]
      omega
    · rw [if_neg q]
      exact bnR_ind n (j + 1) fr acc hf (by omega) hl hi (fun i h z => by
        by_cases e : i = j
        · subst e; exact q z
        · exact hn i (by omega) z)
theorem bnd_ind (hf : ∀ i, O.testBit i = true → 0 ≤ f i) (hl : O < 16777216) (hi : ind g O) : bnd f g O = SF f O := by
  have := bnR_ind 24 0 O 0 hf rfl hl hi (fun i h => by omega)
  unfold bnd
  omega
theorem cnd_lt (hl : O < 16777216) (h : cnd g O T) : T < 16777216 := by
  have : T &&& O = T := by
    apply Nat.eq_of_testBit_eq
    intro i
    rw [Nat.testBit_and, Bool.eq_iff_iff, Bool.and_eq_true]
    exact ⟨fun z => z.1, fun z => ⟨z, h.1 i z⟩⟩
  have h2 := Nat.and_le_right (n := T) (m := O)
  omega
theorem cnd_zero : cnd g O 0 := ⟨fun i h => by rw [Nat.zero_testBit] at h; exact absurd h (by decide), fun a b h => by rw [Nat.zero_testBit] at h; exact absurd h (by decide)⟩
theorem SF_nil : SF f 0 = 0 := sumF_zero 24 (fun i _ h => by rw [Nat.zero_testBit] at h; exact absurd h (by decide))
/-- a set that has l, and one that has it not -/
theorem cnd_has {l : Nat} (hO : O < 16777216) (h : cnd g O T) (hl : T.testBit l = true) : cnd g (sd (sd O (2 ^ l)) (g l)) (sd T (2 ^ l)) := by
  have hT := cnd_lt hO h
  refine ⟨fun i hi => ?_, fun a b ha hb => h.2 a b ((sd_bit hT).mp ha).1 ((sd_bit hT).mp hb).1⟩
  have := (sd_bit hT).mp hi
  exact (sd_bit sd_lt).mpr ⟨(sd_bit hO).mpr ⟨h.1 i this.1, this.2⟩, h.2 l i hl this.1⟩
theorem cnd_not {l : Nat} (hO : O < 16777216) (h : cnd g O T) (hl : ¬ T.testBit l = true) : cnd g (sd O (2 ^ l)) T :=
  ⟨fun i hi => (sd_bit hO).mpr ⟨h.1 i hi, fun z => by rw [pow_bit] at z; subst z; exact hl hi⟩, h.2⟩
theorem cnd_put {l : Nat} (hO : O < 16777216) (hE : evn g U) (hU : subs O U) (hl : O.testBit l = true) (h : cnd g (sd (sd O (2 ^ l)) (g l)) T) : cnd g O (T ||| 2 ^ l) ∧ ¬ T.testBit l = true := by
  have hs : ∀ i, T.testBit i = true → O.testBit i = true ∧ ¬ (2 ^ l).testBit i = true ∧ ¬ (g l).testBit i = true := fun i hi => by
    have h1 := (sd_bit sd_lt).mp (h.1 i hi)
    have h2 := (sd_bit hO).mp h1.1
    exact ⟨h2.1, h2.2, h1.2⟩
  refine ⟨⟨fun i hi => ?_, fun a b ha hb => ?_⟩, fun z => (hs l z).2.1 (pow_bit.mpr rfl)⟩
  · rw [orb] at hi
    rcases hi with hi | hi
    · exact (hs i hi).1
    · subst hi; exact hl
  · rw [orb] at ha hb
    rcases ha with ha | ha
    · rcases hb with hb | hb
      · exact h.2 a b ha hb
      · subst hb
        intro z
        exact (hs a ha).2.2 (hE.1 a l (hU a (hs a ha).1) (hU l hl) z)
    · subst ha
      rcases hb with hb | hb
      · exact (hs b hb).2.2
      · subst hb
        exact hE.2 l (hU l hl)
theorem cnd_up {l : Nat} (hO : O < 16777216) (h : cnd g (sd O (2 ^ l)) T) : cnd g O T := ⟨fun i hi => ((sd_bit hO).mp (h.1 i hi)).1, h.2⟩
theorem res_comb {l ch bs bs1 bs2 : Nat} {v b b1 b2 : Int} (hO : O < 16777216) (hE : evn g U) (hU : subs O U) (hl : O.testBit l = true) (h1 : Res (SF f) g (sd (sd O (2 ^ l)) (g l)) (ch ||| 2 ^ l) (v + f l) b bs b1 bs1) (h2 : Res (SF f) g (sd O (2 ^ l)) ch v b1 bs1 b2 bs2) : Res (SF f) g O ch v b bs b2 bs2 := by
  have l24 := bit_lt hO hl
  have up1 : ∀ T, cnd g O T → v + SF f T ≤ b1 ∨ v + SF f T ≤ b2 := by
    intro T hT
    by_cases q : T.testBit l = true
    · have hc := cnd_has hO hT q
      have e := SF_out (f := f) (cnd_lt hO hT) q
      rcases h1 with ⟨x1, x2, x3⟩ | ⟨T1, x1, x2, x3, x4, x5⟩
      · have := x3 _ hc; exact Or.inl (by omega)
      · have := x5 _ hc; exact Or.inl (by omega)
    · have hc := cnd_not hO hT q
      rcases h2 with ⟨x1, x2, x3⟩ | ⟨T1, x1, x2, x3, x4, x5⟩
      · exact Or.inl (x3 _ hc)
      · exact Or.inr (x5 _ hc)
  have m1 : b ≤ b1 := by
    rcases h1 with ⟨x1, -⟩ | ⟨T1, -, -, -, x4, -⟩ <;> omega
  have m2 : b1 ≤ b2 := by
    rcases h2 with ⟨x1, -⟩ | ⟨T1, -, -, -, x4, -⟩ <;> omega
  have up2 : ∀ T, cnd g O T → v + SF f T ≤ b2 := fun T hT => by have := up1 T hT; omega
  rcases h2 with ⟨x1, x2, x3⟩ | ⟨T2, x1, x2, x3, x4, x5⟩
  · rcases h1 with ⟨y1, y2, y3⟩ | ⟨T1, y1, y2, y3, y4, y5⟩
    · exact Or.inl ⟨by omega, by rw [x2, y2], fun T hT => by have := up2 T hT; omega⟩
    · have hp := cnd_put hO hE hU hl y1
      have e := SF_in (f := f) l24 hp.2
      refine Or.inr ⟨T1 ||| 2 ^ l, hp.1, by omega, ?_, by omega, up2⟩
      rw [x2, y3, Nat.or_assoc, Nat.or_comm (2 ^ l) T1]
  · exact Or.inr ⟨T2, cnd_up hO x1, x2, x3, by omega, up2⟩
theorem K_range {M : Mm} (h : Gx M g wt U) (hT : subs T U) : 0 ≤ SF (key wt) T ∧ SF (key wt) T ≤ 2580000000000 := by
  have h1 := sumF_nonneg (f := key wt) (T := T) 24 (fun i _ hi => (key_range h (hT i hi)).1)
  have h2 := sumF_le (f := key wt) (T := T) (C := 107500000000) (by omega) 24 (fun i _ hi => (key_range h (hT i hi)).2)
  unfold SF
  omega
theorem or_lt2 {x y : Nat} (hx : x < 16777216) (hy : y < 16777216) : x ||| y < 16777216 := Nat.or_lt_two_pow (n := 24) (by omega) (by omega)
theorem b_search (hE : evn g U) : ∀ (f O ch dep : Nat) (v b : Int) (bs : Nat) (M : Mm) (kv : Mm → Prop), Gx M g wt U → subs O U → O < 16777216 → ch < 16777216 → bs < 16777216 → popc O < f → dep + popc O ≤ 24 → (0 ≤ v ∧ v ≤ 107500000000 * (dep : Int)) → (-1 ≤ b ∧ b ≤ 5160000000000) → M 85 1 = b → M 85 2 = (bs : Int) → (∀ (M' : Mm) (b' : Int) (bs' : Nat), (∀ c : Nat, c ≠ 85 → M' c = M c) → M' 85 1 = b' → M' 85 2 = (bs' : Int) → bs' < 16777216 → (-1 ≤ b' ∧ b' ≤ 5160000000000) → Res (SF (key wt)) g O ch v b bs b' bs' → kv M') → Bv (wX1_search f (O : Int) (ch : Int) v (dep : Int) M) kv := by
  intro f
  induction f with
  | zero => intro O ch dep v b bs M kv _ _ _ _ _ h; omega
  | succ f ih =>
    intro O ch dep v b bs M kv h hU hO hch hbs hf hd hv hb e1 e2 hk
    apply Bv.of; unfold wX1_search
    refine ⟨(inRof ⟨by omega, by omega⟩), ?_⟩
    rw [if_pos (by omega)]
    have br := bnR_range (f := key wt) (C := 107500000000) (by omega) hE (fun i hi => (key_range h hi).2) 24 0 O 0 rfl hO hU
    have br' : 0 ≤ bnd (key wt) g O ∧ bnd (key wt) g O ≤ 2580000000000 := by unfold bnd; omega
    have kr := K_range h hU
    refine b_kb h hE hU hO ?_
    rw [e1]
    refine ⟨⟨by omega, by omega⟩, ⟨by omega, by omega⟩, ?_⟩
    by_cases c1 : v + bnd (key wt) g O ≤ b
    · rw [if_pos (cmp_le.mpr c1)]
      refine hk M b bs (fun _ _ => rfl) e1 e2 hbs hb (Or.inl ⟨rfl, rfl, fun T hT => ?_⟩)
      have := bnd_up (f := key wt) hE hU hO hT.1 hT.2
      omega
    · rw [if_neg (fun z => c1 (cmp_le.mp z))]
      refine b_bz h hO ?_
      by_cases c2 : bz g O = -1
      · rw [c2, if_pos rfl]
        refine ⟨(inRl (by decide)), ?_⟩
        have hi := bz_none hO c2
        refine b_ak h hU hO ?_
        rw [lorN (by omega) (by omega)]
        have eb := bnd_ind (f := key wt) (g := g) (fun i z => (key_range h (hU i z)).1) hO hi
        have hmax : ∀ T', cnd g O T' → v + SF (key wt) T' ≤ v + SF (key wt) O := by
          intro T' hT'
          have h1 := bnd_up (f := key wt) hE hU hO hT'.1 hT'.2
          omega
        refine hk _ (v + SF (key wt) O) (ch ||| O) (fun c hc => by rw [up_cell hc, up_cell hc]) (by rw [up_nei (by decide), up_eq]) up_eq (or_lt2 hch hO) (by omega) (Or.inr ⟨O, ⟨fun _ z => z, hi⟩, rfl, rfl, by omega, hmax⟩)
      · rw [if_neg c2]
        obtain ⟨l, l1, l2, l3⟩ := bz_some c2
        rw [l2]
        have hg := h.1 l l1
        have p1 := pow24 l1
        have kl := key_range h (hU l l3)
        have hs : subs (sd O (2 ^ l)) O := fun i hi => ((sd_bit hO).mp hi).1
        have pl : popc (sd O (2 ^ l)) < popc O := pcR_less hs l3 (fun z => ((sd_bit hO).mp z).2 (pow_bit.mpr rfl)) 24 l1
        have ps : popc (sd (sd O (2 ^ l)) (g l)) ≤ popc (sd O (2 ^ l)) := pcR_sub (fun i hi => ((sd_bit sd_lt).mp hi).1) 24
        refine ⟨(inRof ⟨by omega, by omega⟩), ⟨by omega, by omega⟩, b_key h (hU l l3) ?_⟩
        rw [hg.1, shl1 (by omega), andnotN hO p1, andnotN sd_lt hg.2, lorN (by omega) (by omega)]
        have ev : (dep : Int) + 1 = ((dep + 1 : Nat) : Int) := by omega
        rw [ev]
        refine ih (sd (sd O (2 ^ l)) (g l)) (ch ||| 2 ^ l) (dep + 1) (v + key wt l) b bs M _ h (fun i hi => hU i (hs i ((sd_bit sd_lt).mp hi).1)) sd_lt (or_lt hch l1) hbs (by omega) (by omega) (by omega) hb e1 e2 (fun M1 b1 bs1 f1 g1 g2 g3 g4 r1 => ?_)
        refine ih (sd O (2 ^ l)) ch (dep + 1) v b1 bs1 M1 _ (h.fr (f1 84 (by decide)) (f1 20 (by decide))) (fun i hi => hU i (hs i hi)) sd_lt hch g3 (by omega) (by omega) (by omega) g4 g1 g2 (fun M2 b2 bs2 f2 g5 g6 g7 g8 r2 => ?_)
        exact hk M2 b2 bs2 (fun c hc => by rw [f2 c hc, f1 c hc]) g5 g6 g7 g8 (res_comb hO hE hU l3 r1 r2)
end Search
