/-! ===== the model's proof ===== -/
def pmR (g : Nat → Nat) (O : Nat) : Nat → Int
  | 0 => -1
  | n + 1 => if O.testBit n = true then (if pmR g O n = -1 then (n : Int) else if popc (g n &&& O) ≤ popc (g (pmR g O n).toNat &&& O) then pmR g O n else (n : Int)) else pmR g O n
section MP
variable {kv : Mm → Prop} {kk : Int → Mm → Prop} {g : Nat → Nat} {wt : Nat → Int} {U O : Nat}
theorem pmR_range : ∀ n : Nat, -1 ≤ pmR g O n ∧ pmR g O n < (n : Int)
  | 0 => ⟨Int.le_refl _, by show (-1 : Int) < 0; omega⟩
  | n + 1 => by
    have ih := pmR_range n
    unfold pmR
    by_cases q : O.testBit n = true
    · rw [if_pos q]
      split
      · omega
      · split <;> omega
    · rw [if_neg q]; omega
theorem pm_bz : ∀ n : Nat, ((bzR g O n).2 = 0 ∧ (pmR g O n = -1 ∨ popc (g (pmR g O n).toNat &&& O) = 0)) ∨ (0 < (bzR g O n).2 ∧ pmR g O n = (bzR g O n).1 ∧ ((popc (g (pmR g O n).toNat &&& O) : Nat) : Int) = (bzR g O n).2)
  | 0 => Or.inl ⟨rfl, Or.inl rfl⟩
  | n + 1 => by
    have ih := pm_bz n
    have hr := pmR_range (g := g) (O := O) n
    unfold bzR pmR bzC
    by_cases q : O.testBit n = true
    · rw [if_pos q, if_pos q]
      rcases ih with ⟨i1, i2⟩ | ⟨i1, i2, i3⟩
      · rw [i1]
        by_cases z : ((popc (g n &&& O) : Nat) : Int) ≤ 0
        · rw [if_pos z]
          refine Or.inl ⟨i1, ?_⟩
          by_cases y : pmR g O n = -1
          · rw [if_pos y]
            refine Or.inr ?_
            rw [Int.toNat_natCast]; omega
          · rw [if_neg y]
            have i2 := i2.resolve_left y
            rw [if_pos (by omega)]
            exact Or.inr i2
        · rw [if_neg z]
          refine Or.inr ⟨by show 0 < ((popc (g n &&& O) : Nat) : Int); omega, ?_, ?_⟩
          · show _ = (n : Int)
            by_cases y : pmR g O n = -1
            · rw [if_pos y]
            · rw [if_neg y]
              have i2 := i2.resolve_left y
              rw [if_neg (by omega)]
          · have e : (if pmR g O n = -1 then (n : Int) else if popc (g n &&& O) ≤ popc (g (pmR g O n).toNat &&& O) then pmR g O n else (n : Int)) = (n : Int) := by
              by_cases y : pmR g O n = -1
              · rw [if_pos y]
              · rw [if_neg y]
                have i2 := i2.resolve_left y
                rw [if_neg (by omega)]
            rw [e, Int.toNat_natCast]
      · have sp := bzR_spec (g := g) (O := O) n
        have y : ¬ pmR g O n = -1 := by
          rcases sp.2.2 with s | ⟨l, -, l2, -⟩
          · omega
          · omega
        rw [if_neg y]
        by_cases z : ((popc (g n &&& O) : Nat) : Int) ≤ (bzR g O n).2
        · rw [if_pos z, if_pos (by omega)]
          exact Or.inr ⟨i1, i2, i3⟩
        · rw [if_neg z, if_neg (by omega)]
          refine Or.inr ⟨by show 0 < ((popc (g n &&& O) : Nat) : Int); omega, rfl, ?_⟩
          rw [Int.toNat_natCast]
    · rw [if_neg q, if_neg q]
      have sp := (bzR_spec (g := g) (O := O) n).1
      rw [if_pos sp.1]
      exact ih
theorem pm_eq (h : bz g O ≠ -1) : pmR g O 24 = bz g O := by
  have sp := bzR_spec (g := g) (O := O) 24
  rcases pm_bz (g := g) (O := O) 24 with ⟨i1, -⟩ | ⟨-, i2, -⟩
  · exfalso
    rcases sp.2.2 with s | ⟨l, -, -, -, -, l5⟩
    · exact h s.1
    · omega
  · exact i2
theorem l_pm {M : Mm} {Q : Mm → Prop} {rc : Int → Int → Mm → (Mm → Prop) → Prop} {v : Int} (h : Gm M g wt U) (hO : O < 16777216) (hk : wX12_proves_129 Q rc (O : Int) v (pmR g O 24) M) : ∀ (n j : Nat), j + n = 24 → wX12_proves_72 Q rc (O : Int) v (n + 1) (pmR g O j) (j : Int) M := by
  intro n
  induction n with
  | zero =>
    intro j hj
    unfold wX12_proves_72
    refine ⟨(inRof ⟨by omega, by omega⟩), ?_⟩
    rw [if_neg (by omega)]
    rw [show j = 24 by omega]
    exact hk
  | succ n ih =>
    intro j hj
    unfold wX12_proves_72
    refine ⟨(inRof ⟨by omega, by omega⟩), ?_⟩
    rw [if_pos (by omega)]
    have hb := bit01 (n := O) (j := j) (by omega) (by omega)
    have hr := pmR_range (g := g) (O := O) j
    have ih := ih (j + 1) (by omega)
    unfold pmR at ih
    by_cases q : O.testBit j = true
    · rw [if_pos (hb.1.mpr q)]
      rw [if_pos q] at ih
      refine ⟨(inRof ⟨by omega, by omega⟩), ?_⟩
      by_cases y : pmR g O j = -1
      · rw [if_pos y]; rw [if_pos y] at ih; exact ih
      · rw [if_neg y]; rw [if_neg y] at ih
        obtain ⟨p, hp⟩ : ∃ p : Nat, pmR g O j = (p : Int) := ⟨(pmR g O j).toNat, by omega⟩
        rw [hp, Int.toNat_natCast] at ih
        rw [hp]
        have g1 := h.1 j (by omega)
        have g2 := h.1 p (by omega)
        have o1 := popc_le (n := g j &&& O)
        have o2 := popc_le (n := g p &&& O)
        have a1 := Nat.and_le_left (n := g j) (m := O)
        have a2 := Nat.and_le_left (n := g p) (m := O)
        rw [g1.1, landN (by omega) (by omega)]
        refine ⟨⟨by omega, by omega⟩, b_ones (by omega) ⟨⟨by omega, by omega⟩, ?_⟩⟩
        rw [g2.1, landN (by omega) (by omega)]
        refine b_ones (by omega) ⟨(inRof ⟨by omega, by omega⟩), (inRof ⟨by omega, by omega⟩), ?_⟩
        by_cases z : popc (g j &&& O) ≤ popc (g p &&& O)
        · rw [if_pos (by omega)]; rw [if_pos z] at ih; exact ih
        · rw [if_neg (by omega)]; rw [if_neg z] at ih; exact ih
    · rw [if_neg (fun z => q (hb.1.mp z))]
      rw [if_neg q] at ih
      exact ih
theorem FrW.gm {M M' : Mm} (h : FrW M M') (hg : Gm M g wt U) : Gm M' g wt U := hg.fr (h.1 110 (by decide) (by decide)) (h.1 103 (by decide) (by decide))
theorem FrQ.gm {M M' : Mm} (h : FrQ M M') (hg : Gm M g wt U) : Gm M' g wt U := hg.fr (h.1 110 (by decide) (by decide) (by decide)) (h.1 103 (by decide) (by decide) (by decide))
theorem FrB.pm {M M' : Mm} {L : List Int} (h : FrB M M') (hp : PM M L) : PM M' L := by
  unfold PM
  rw [h.2 18 (by decide), h.1 112 (by decide) (by decide)]
  exact hp
theorem sd_or {x y z : Nat} (hx : x < 16777216) : sd x (y ||| z) = sd (sd x y) z := by
  apply Nat.eq_of_testBit_eq
  intro i
  rw [Bool.eq_iff_iff, sd_bit hx, sd_bit sd_lt, sd_bit hx, Nat.testBit_or, Bool.or_eq_true]
  constructor
  · rintro ⟨a, b⟩; exact ⟨⟨a, fun c => b (Or.inl c)⟩, fun c => b (Or.inr c)⟩
  · rintro ⟨⟨a, b⟩, c⟩; exact ⟨a, fun d => by rcases d with d | d; exact b d; exact c d⟩
theorem b_proves {goal : Int} (hE : evn g U) (hgo : inR goal) : ∀ (f O dep : Nat) (v : Int) (M : Mm) (L : List Int) (kv : Mm → Prop), Gm M g wt U → subs O U → O < 16777216 → popc O < f → f ≤ 30 → dep + popc O ≤ 24 → (0 ≤ v ∧ v ≤ 100 * (dep : Int)) → L.length ≤ 6000 → (∀ T, cnd g O T → v + SF wt T ≤ goal) → PM M L → M 102 19 = goal → (∀ M', FrQ M M' → PM M' (wr g wt goal f O v L) → kv M') → Bv (wX12_proves f (O : Int) v M) kv := by
  intro f
  induction f with
  | zero => intro O dep v M L kv _ _ _ h; omega
  | succ f ih =>
    intro O dep v M L kv h hU hO hf hf30 hd hv hl hmax hw hgl hk
    apply Bv.of; unfold wX12_proves
    rw [hw.1]
    refine ⟨(inRof ⟨by omega, by omega⟩), ?_⟩
    unfold wr at hk
    by_cases q : 2000 < L.length
    · rw [if_neg (by omega)]
      rw [if_pos q] at hk
      exact hk M FrQ.refl hw
    · rw [if_pos (by omega)]
      rw [if_neg q] at hk
      have br := bnR_range (f := wt) (C := 100) (by omega) hE (fun i hi => (h.2.1 i hi).2.2) 24 0 O 0 rfl hO hU
      have br' : 0 ≤ bnd wt g O ∧ bnd wt g O ≤ 2400 := by unfold bnd; omega
      refine b_mb hE hO hU h (fun M1 f1 h1 => ?_)
      rw [f1.2 19 (by decide), hgl]
      refine ⟨(inRof ⟨by omega, by omega⟩), hgo, ?_⟩
      by_cases c3 : v + bnd wt g O ≤ goal
      · rw [if_pos c3]
        rw [if_pos (Or.inr c3)] at hk
        refine b_puts (f1.pm hw) (by omega) (by omega) (fun M2 f2 p2 => ?_)
        refine ⟨_, l_emit (Ge := M1 102 21) (A := M1 113) hE 24 0 O 0 M2 _ rfl hO hU (fun i hi => by omega) h1 (by omega) (by rw [f2.1 113 (by decide) (by decide)]) (by rw [f2.2 21 (by decide)]) p2 (by rw [List.length_append]; show L.length + 1 + _ ≤ _; omega) (fun M3 f3 p3 => hk M3 ((f1.toQ.trans f2.toQ).trans f3.toQ) ?_)⟩
        rw [List.append_assoc] at p3
        exact p3
      · rw [if_neg c3]
        have c2 : bz g O ≠ -1 := by
          intro e
          have hi := bz_none hO e
          have e2 := bnd_ind (f := wt) (g := g) (fun i z => by have := (h.2.1 i (hU i z)).2.1; omega) hO hi
          have := hmax O ⟨fun _ z => z, hi⟩
          omega
        obtain ⟨l, l1, l2, l3⟩ := bz_some c2
        rw [if_neg (fun z => by rcases z with z | z; exact c2 z; exact c3 z), l2, Int.toNat_natCast] at hk
        refine ⟨25, l_pm (f1.gm h) hO ?_ 24 0 rfl⟩
        rw [pm_eq c2, l2]
        unfold wX12_proves_129
        have hp := pNum_len l
        refine b_puts (f1.pm hw) (by omega) (by omega) (fun M2 f2 p2 => b_putsL p2 l1 (by rw [List.length_append]; show L.length + 1 ≤ _; omega) (fun M3 f3 p3 => ?_))
        rw [List.append_assoc] at p3
        have g3 := f3.gm (f2.gm (f1.gm h))
        have hg := g3.1 l l1
        have hwt := g3.2.1 l (hU l l3)
        have p1' := pow24 l1
        have hs : subs (sd O (2 ^ l)) O := fun i hi => ((sd_bit hO).mp hi).1
        have hs1 : subs (sd (sd O (2 ^ l)) (g l)) (sd O (2 ^ l)) := fun i hi => ((sd_bit sd_lt).mp hi).1
        have pl : popc (sd O (2 ^ l)) < popc O := pcR_less hs l3 (fun z => ((sd_bit hO).mp z).2 (pow_bit.mpr rfl)) 24 l1
        have ps : popc (sd (sd O (2 ^ l)) (g l)) ≤ popc (sd O (2 ^ l)) := pcR_sub hs1 24
        have eL : (L ++ ([40] ++ pNum l)).length = L.length + (pNum l).length + 1 := by rw [List.length_append, List.length_append]; show _ + (1 + _) = _; omega
        refine ⟨⟨by omega, by omega⟩, b_logAt (x := 507 + 9 * (l : Int)) (by omega) (by omega) (by omega) ?_⟩
        have o24 := or_lt2 p1' hg.2
        rw [hg.1, hwt.1, shl1 (by omega), lorN (by omega) (by omega), andnotN hO o24, sd_or hO, andnotN hO p1']
        have w1 := wr_len (g := g) (wt := wt) (goal := goal) f (sd (sd O (2 ^ l)) (g l)) (v + wt l) (L ++ ([40] ++ pNum l))
        have w2 := wr_len (g := g) (wt := wt) (goal := goal) f (sd O (2 ^ l)) v (wr g wt goal f (sd (sd O (2 ^ l)) (g l)) (v + wt l) (L ++ ([40] ++ pNum l)))
        refine ih _ (dep + 1) (v + wt l) M3 _ _ g3 (fun i hi => hU i (hs i (hs1 i hi))) sd_lt (by omega) (by omega) (by omega) (by omega) (by omega) (fun T hT => ?_) p3 (by rw [f3.2 19 (by decide), f2.2 19 (by decide), f1.2 19 (by decide)]; exact hgl) (fun M4 f4 p4 => ?_)
        · have hpt := cnd_put hO hE hU l3 hT
          have := hmax _ hpt.1
          rw [SF_in l1 hpt.2] at this
          omega
        · refine ih _ (dep + 1) v M4 _ _ (f4.gm g3) (fun i hi => hU i (hs i hi)) sd_lt (by omega) (by omega) (by omega) (by omega) (by omega) (fun T hT => hmax T (cnd_up hO hT)) p4 (by rw [f4.2 19 (by decide) (by decide), f3.2 19 (by decide), f2.2 19 (by decide), f1.2 19 (by decide)]; exact hgl) (fun M5 f5 p5 => ?_)
          exact b_puts p5 (by omega) (by omega) (fun M6 f6 p6 => hk M6 (((((f1.toQ.trans f2.toQ).trans f3.toQ).trans f4).trans f5).trans f6.toQ) p6)
/-! two graphs that are alike on U write alike -/
def alike (g1 g2 : Nat → Nat) (U : Nat) : Prop := ∀ a b : Nat, U.testBit a = true → U.testBit b = true → ((g1 a).testBit b = true ↔ (g2 a).testBit b = true)
variable {g1 g2 : Nat → Nat}
theorem sd_al (h : alike g1 g2 U) {x i : Nat} (hx : subs x U) (hi : U.testBit i = true) : sd x (g1 i) = sd x (g2 i) := by
  unfold sd
  refine bset_congr 24 (fun l _ => ?_)
  rw [Bool.eq_iff_iff, Bool.and_eq_true, Bool.and_eq_true, Bool.not_eq_true', Bool.not_eq_true', ← Bool.not_eq_true, ← Bool.not_eq_true]
  constructor
  · rintro ⟨a, b⟩; exact ⟨a, fun c => b ((h i l hi (hx l a)).mpr c)⟩
  · rintro ⟨a, b⟩; exact ⟨a, fun c => b ((h i l hi (hx l a)).mp c)⟩
theorem gpR_al (h : alike g1 g2 U) {fr : Nat} (hf : subs fr U) : ∀ (n i x : Nat), subs x fr → gpR g1 fr n i x = gpR g2 fr n i x
  | 0, _, _, _ => rfl
  | n + 1, i, x, hx => by
    unfold gpR
    by_cases q : fr.testBit i = true
    · rw [sd_al h (fun l hl => hf l (hx l hl)) (hf i q)]
      by_cases q2 : sd x (g2 i) = 0
      · rw [if_pos ⟨q, q2⟩, if_pos ⟨q, q2⟩]
        exact gpR_al h hf n (i + 1) _ (fun l hl => by
          rw [orb] at hl
          rcases hl with hl | hl
          · exact hx l hl
          · subst hl; exact q)
      · rw [if_neg (fun z => q2 z.2), if_neg (fun z => q2 z.2)]
        exact gpR_al h hf n (i + 1) x hx
    · rw [if_neg (fun z => q z.1), if_neg (fun z => q z.1)]
      exact gpR_al h hf n (i + 1) x hx
theorem gp_al (h : alike g1 g2 U) {fr i : Nat} (hf : subs fr U) (hi : fr.testBit i = true) : gp g1 fr i = gp g2 fr i := gpR_al h hf _ _ _ (fun l hl => by rw [pow_bit] at hl; subst hl; exact hi)
theorem bnR_al (h : alike g1 g2 U) : ∀ (n j fr : Nat) (acc : Int), fr < 16777216 → subs fr U → bnR wt g1 n j fr acc = bnR wt g2 n j fr acc
  | 0, _, _, _, _, _ => rfl
  | n + 1, j, fr, acc, hl, hf => by
    unfold bnR
    by_cases q : fr.testBit j = true
    · rw [if_pos q, if_pos q, gp_al h hf q]
      exact bnR_al h n _ _ _ sd_lt (fun l hl' => hf l ((sd_bit hl).mp hl').1)
    · rw [if_neg q, if_neg q]
      exact bnR_al h n _ _ _ hl hf
theorem pGs_al (h : alike g1 g2 U) : ∀ (n j fr : Nat), fr < 16777216 → subs fr U → pGs g1 n j fr = pGs g2 n j fr
  | 0, _, _, _, _ => rfl
  | n + 1, j, fr, hl, hf => by
    have i1 := pGs_al h n (j + 1) (sd fr (gp g2 fr j)) sd_lt (fun l hl' => hf l ((sd_bit hl).mp hl').1)
    have i2 := pGs_al h n (j + 1) fr hl hf
    unfold pGs
    by_cases q : fr.testBit j = true
    · rw [if_pos q, if_pos q, gp_al h hf q, i1]
    · rw [if_neg q, if_neg q, i2]
theorem bz_al (h : alike g1 g2 U) (hO : subs O U) : ∀ n : Nat, bzR g1 O n = bzR g2 O n
  | 0 => rfl
  | n + 1 => by
    have ih := bz_al h hO n
    have e : bzC g1 O n = bzC g2 O n := by
      unfold bzC
      by_cases q : O.testBit n = true
      · rw [if_pos q, if_pos q]
        have : g1 n &&& O = g2 n &&& O := by
          apply Nat.eq_of_testBit_eq
          intro i
          rw [Nat.testBit_and, Nat.testBit_and, Bool.eq_iff_iff, Bool.and_eq_true, Bool.and_eq_true]
          constructor
          · rintro ⟨a, b⟩; exact ⟨(h n i (hO n q) (hO i b)).mp a, b⟩
          · rintro ⟨a, b⟩; exact ⟨(h n i (hO n q) (hO i b)).mpr a, b⟩
        rw [this]
      · rw [if_neg q, if_neg q]
    unfold bzR
    rw [ih, e]
theorem wr_al {goal : Int} (h : alike g1 g2 U) : ∀ (f O : Nat) (v : Int) (L : List Int), O < 16777216 → subs O U → wr g1 wt goal f O v L = wr g2 wt goal f O v L
  | 0, _, _, _, _, _ => rfl
  | f + 1, O, v, L, hl, hO => by
    have eb : bz g1 O = bz g2 O := congrArg Prod.fst (bz_al h hO 24)
    have en : bnd wt g1 O = bnd wt g2 O := bnR_al h 24 0 O 0 hl hO
    have ep : leafB g1 O = leafB g2 O := congrArg _ (pGs_al h 24 0 O hl hO)
    unfold wr
    rw [eb, en, ep]
    by_cases q : 2000 < L.length
    · rw [if_pos q, if_pos q]
    · rw [if_neg q, if_neg q]
      by_cases q2 : bz g2 O = -1 ∨ v + bnd wt g2 O ≤ goal
      · rw [if_pos q2, if_pos q2]
      · rw [if_neg q2, if_neg q2]
        have hb : bz g2 O ≠ -1 := fun z => q2 (Or.inl z)
        obtain ⟨l, l1, l2, l3⟩ := bz_some hb
        rw [l2, Int.toNat_natCast]
        have hs : subs (sd O (2 ^ l)) U := fun i hi => hO i ((sd_bit hl).mp hi).1
        rw [sd_al h hs (hO l l3), wr_al h f (sd (sd O (2 ^ l)) (g2 l)) _ _ sd_lt (fun i hi => hs i ((sd_bit sd_lt).mp hi).1), wr_al h f (sd O (2 ^ l)) v _ sd_lt hs]
end MP
