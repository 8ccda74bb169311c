/-! ===== the model's bound ===== -/
def FrB (M M' : Mm) : Prop := (∀ c : Nat, c ≠ 102 → c ≠ 113 → M' c = M c) ∧ ∀ i, i ≠ 21 → M' 102 i = M 102 i
theorem FrB.refl {M : Mm} : FrB M M := ⟨fun _ _ _ => rfl, fun _ _ => rfl⟩
theorem FrB.trans {M M1 M2 : Mm} (h1 : FrB M M1) (h2 : FrB M1 M2) : FrB M M2 := ⟨fun c a b => (h2.1 c a b).trans (h1.1 c a b), fun i a => (h2.2 i a).trans (h1.2 i a)⟩
theorem FrB.toQ {M M' : Mm} (h : FrB M M') : FrQ M M' := ⟨fun c a _ b => h.1 c a b, fun i _ a => h.2 i a⟩
theorem FrB.ug {M : Mm} {i x : Int} : FrB M (up M 113 i x) := ⟨fun c _ b => up_cell b, fun i _ => up_ne (by decide)⟩
theorem FrB.un {M : Mm} {x : Int} : FrB M (up M 102 21 x) := ⟨fun c a _ => up_cell a, fun i a => up_nei a⟩
section MB
variable {kv : Mm → Prop} {kk : Int → Mm → Prop} {g : Nat → Nat} {wt : Nat → Int} {U O : Nat}
theorem FrB.gm {M M' : Mm} (h : FrB M M') (hg : Gm M g wt U) : Gm M' g wt U := hg.fr (h.1 110 (by decide) (by decide)) (h.1 103 (by decide) (by decide))
theorem mx_in {f : Nat → Int} {x k : Nat} : ∀ n : Nat, mxR f (x ||| 2 ^ k) n = if k < n then max (mxR f x n) (f k) else mxR f x n
  | 0 => by rw [if_neg (by omega)]; rfl
  | n + 1 => by
    have ih := mx_in (f := f) (x := x) (k := k) n
    unfold mxR
    by_cases q : k = n
    · subst q
      rw [if_pos (orb.mpr (Or.inr rfl)), ih, if_neg (by omega), if_pos (by omega)]
      split <;> omega
    · by_cases q2 : x.testBit n = true
      · rw [if_pos (orb.mpr (Or.inl q2)), if_pos q2, ih]
        by_cases q3 : k < n
        · rw [if_pos q3, if_pos (by omega)]; omega
        · rw [if_neg q3, if_neg (by omega)]
      · rw [if_neg (fun z => by rcases orb.mp z with z | z; exact q2 z; exact q z), if_neg q2, ih]
        by_cases q3 : k < n
        · rw [if_pos q3, if_pos (by omega)]
        · rw [if_neg q3, if_neg (by omega)]
theorem l_jn {M : Mm} {Q : Int → Mm → Prop} {x k : Nat} {G : Int} (hk24 : k < 24) (hG : inR G) (hg : M 110 (k : Int) = (g k : Nat)) (hgl : g k < 16777216) (hm : ∀ l : Nat, l < 24 → inR (M 113 (l : Int)) ∧ (M 113 (l : Int) = G ↔ x.testBit l = true)) (h1 : (∀ l, l < k → x.testBit l = true → (g k).testBit l = true) → Q 1 M) (h0 : ¬ (∀ l, l < k → x.testBit l = true → (g k).testBit l = true) → Q 0 M) : ∀ (n j : Nat), j + n = k → (∀ l, l < j → x.testBit l = true → (g k).testBit l = true) → wX12_joins_2 Q (k : Int) G (n + 1) (j : Int) M := by
  intro n
  induction n with
  | zero =>
    intro j hj hp
    unfold wX12_joins_2
    refine ⟨(inRof ⟨by omega, by omega⟩), (inRof ⟨by omega, by omega⟩), ?_⟩
    rw [if_neg (by omega)]
    rw [show j = k by omega] at hp
    exact h1 hp
  | succ n ih =>
    intro j hj hp
    unfold wX12_joins_2
    refine ⟨(inRof ⟨by omega, by omega⟩), (inRof ⟨by omega, by omega⟩), ?_⟩
    rw [if_pos (by omega)]
    have hmj := hm j (by omega)
    refine ⟨⟨by omega, by omega⟩, hmj.1, hG, ?_⟩
    have hb := bit01 (n := g k) (j := j) (by omega) (by omega)
    by_cases q : x.testBit j = true
    · rw [if_pos (hmj.2.mpr q), hg]
      refine ⟨⟨by omega, by omega⟩, ?_⟩
      by_cases q2 : (g k).testBit j = true
      · rw [if_neg (fun z => hb.2.mp z q2)]
        exact ih (j + 1) (by omega) (fun l hl hx => by
          by_cases e : l = j
          · subst e; exact q2
          · exact hp l (by omega) hx)
      · rw [if_pos (hb.2.mpr q2)]
        exact h0 (fun z => q2 (z j (by omega) q))
    · rw [if_neg (fun z => q (hmj.2.mp z))]
      exact ih (j + 1) (by omega) (fun l hl hx => by
        by_cases e : l = j
        · subst e; exact absurd hx q
        · exact hp l (by omega) hx)
theorem i_jn {M : Mm} {A C : Mm → Prop} {x k : Nat} {G : Int} (hk24 : k < 24) (hG : inR G) (hg : M 110 (k : Int) = (g k : Nat)) (hgl : g k < 16777216) (hx : x < 16777216) (hxk : ∀ l, x.testBit l = true → l < k) (hm : ∀ l : Nat, l < 24 → inR (M 113 (l : Int)) ∧ (M 113 (l : Int) = G ↔ x.testBit l = true)) (h1 : sd x (g k) = 0 → C M) (h0 : ¬ sd x (g k) = 0 → A M) : Bd (wX12_joins (k : Int) G M) (fun r M => inR r ∧ (if r = 0 then A M else C M)) := by
  apply Bd.of; unfold wX12_joins
  refine ⟨k + 1, l_jn hk24 hG hg hgl hm (fun z => tI1 (h1 ?_)) (fun z => tI0 (h0 (fun e => z (fun l _ hl => sd_zero hx e hl)))) k 0 (by omega) (fun l hl => by omega)⟩
  apply Nat.eq_of_testBit_eq
  intro i
  rw [Nat.zero_testBit, ← Bool.not_eq_true, sd_bit hx]
  rintro ⟨y1, y2⟩
  exact y2 (z i (hxk i y1) y1)
theorem l_b87 {Q : Int → Mm → Prop} {k31 : Int → Int → Mm → Prop} {acc : Int} {j fr : Nat} {G : Int} {A0 : Int → Int} (hO : O < 16777216) (hU : subs O U) (hf : subs fr O) (hG : 0 ≤ G ∧ G ≤ 24) (hA : ∀ l : Nat, l < 24 → (-1 ≤ A0 (l : Int) ∧ A0 (l : Int) < G) ∧ (O.testBit l = true → (A0 (l : Int) = -1 ↔ fr.testBit l = true))) : ∀ (n k x : Nat) (M : Mm), k + n = 24 → x < 16777216 → (∀ l, x.testBit l = true → l < k) → subs x fr → Gm M g wt U → (∀ l : Nat, l < 24 → M 113 (l : Int) = if x.testBit l = true then G else A0 (l : Int)) → M 102 21 = G → (∀ M', FrB M M' → (∀ l : Nat, l < 24 → M' 113 (l : Int) = if (gpR g fr n k x).testBit l = true then G else A0 (l : Int)) → M' 102 21 = G + 1 → k31 (acc + mxR wt (gpR g fr n k x) 24) ((j : Int) + 1) M') → wX12_bound_87 Q k31 (O : Int) acc (j : Int) (n + 1) (mxR wt x 24) (k : Int) M := by
  intro n
  induction n with
  | zero =>
    intro k x M hk0 hx hxk hxf hgm hm hg21 hk
    unfold wX12_bound_87
    refine ⟨(inRof ⟨by omega, by omega⟩), ?_⟩
    rw [if_neg (by omega)]
    unfold wX12_bound_173
    rw [hg21]
    exact hk _ FrB.un (fun l hl => by rw [up_ne (by decide)]; exact hm l hl) up_eq
  | succ n ih =>
    intro k x M hk0 hx hxk hxf hgm hm hg21 hk
    unfold wX12_bound_87
    refine ⟨(inRof ⟨by omega, by omega⟩), ?_⟩
    rw [if_pos (by omega)]
    have hb := bit01 (n := O) (j := k) (by omega) (by omega)
    have hgk := hgm.1 k (by omega)
    have hAk := hA k (by omega)
    have hxn : ¬ x.testBit k = true := fun z => by have := hxk k z; omega
    have skip : ¬ (fr.testBit k = true ∧ sd x (g k) = 0) → wX12_bound_87 Q k31 (O : Int) acc (j : Int) (n + 1) (mxR wt x 24) ((k : Int) + 1) M := by
      intro hno
      unfold gpR at hk
      rw [if_neg hno] at hk
      exact ih (k + 1) x M (by omega) hx (fun l hl => by have := hxk l hl; omega) hxf hgm hm hg21 hk
    by_cases q : O.testBit k = true
    · rw [if_neg (fun z => hb.2.mp z q), hm k (by omega), if_neg hxn]
      refine ⟨⟨by omega, by omega⟩, (inRof ⟨by omega, by omega⟩), ?_⟩
      by_cases q2 : A0 (k : Int) = -1
      · rw [if_pos q2, hg21]
        have hfk := (hAk.2 q).mp q2
        refine i_jn (by omega) (inRof ⟨by omega, by omega⟩) hgk.1 hgk.2 hx hxk (fun l hl => ?_) (fun z => ?_) (fun z => skip (fun y => z y.2))
        · have := (hA l hl).1
          rw [hm l hl]
          by_cases y : x.testBit l = true
          · rw [if_pos y]; exact ⟨(inRof ⟨by omega, by omega⟩), fun _ => y, fun _ => rfl⟩
          · rw [if_neg y]; exact ⟨(inRof ⟨by omega, by omega⟩), fun e => by omega, fun e => absurd e y⟩
        · have hw := hgm.2.1 k (hU k q)
          refine b_logAt (x := 507 + 9 * (k : Int)) (by omega) (by omega) (by omega) ?_
          rw [up_ne (show 103 ≠ 113 by decide), hw.1]
          have m0 := mxR_nonneg (f := wt) (x := x) 24
          have m1 := mxR_le (f := wt) (x := x) (C := 100) (by omega) 24 (fun i _ hi => (hgm.2.1 i (hU i (hf i (hxf i hi)))).2.2)
          refine ⟨(inRof ⟨by omega, by omega⟩), (inRof ⟨by omega, by omega⟩), ?_⟩
          unfold gpR at hk
          rw [if_pos ⟨hfk, z⟩] at hk
          have emx := mx_in (f := wt) (x := x) (k := k) 24
          rw [if_pos (by omega)] at emx
          have nxt := ih (k + 1) (x ||| 2 ^ k) (up M 113 (k : Int) (M 102 21)) (by omega) (or_lt hx (by omega)) (fun l hl => by
            rw [orb] at hl
            rcases hl with hl | hl
            · have := hxk l hl; omega
            · omega) (fun l hl => by
            rw [orb] at hl
            rcases hl with hl | hl
            · exact hxf l hl
            · subst hl; exact hfk) (FrB.ug.gm hgm) (fun l hl => by
            by_cases e : l = k
            · subst e
              rw [up_eq, if_pos (orb.mpr (Or.inr rfl)), hg21]
            · rw [up_nei (by omega), hm l hl]
              by_cases y : x.testBit l = true
              · rw [if_pos y, if_pos (orb.mpr (Or.inl y))]
              · rw [if_neg y, if_neg (fun w => by rcases orb.mp w with w | w; exact y w; exact e w.symm)]) (by rw [up_ne (by decide)]; exact hg21) (fun M' f' => hk M' (FrB.ug.trans f'))
          rw [emx] at nxt
          by_cases c5 : wt k ≤ mxR wt x 24
          · rw [if_pos c5]
            rw [show max (mxR wt x 24) (wt k) = mxR wt x 24 by omega] at nxt
            exact nxt
          · rw [if_neg c5]
            refine b_logAt (x := 507 + 9 * (k : Int)) (by omega) (by omega) (by omega) ?_
            rw [up_ne (show 103 ≠ 113 by decide), hw.1]
            rw [show max (mxR wt x 24) (wt k) = wt k by omega] at nxt
            exact nxt
      · rw [if_neg q2]
        exact skip (fun y => q2 ((hAk.2 q).mpr y.1))
    · rw [if_pos (hb.2.mpr q)]
      exact skip (fun y => q (hf k y.1))
theorem l_b31 {Q : Int → Mm → Prop} (hE : evn g U) (hO : O < 16777216) (hU : subs O U) : ∀ (n j fr : Nat) (G acc : Int) (M : Mm), j + n = 24 → fr < 16777216 → subs fr O → (∀ i, i < j → ¬ fr.testBit i = true) → (0 ≤ G ∧ G + (n : Int) ≤ 24) → Gm M g wt U → (∀ l : Nat, l < 24 → (-1 ≤ M 113 (l : Int) ∧ M 113 (l : Int) < G) ∧ (O.testBit l = true → (M 113 (l : Int) = -1 ↔ fr.testBit l = true))) → M 102 21 = G → (∀ M', FrB M M' → GOK g (M' 113) (M' 102 21) n j fr G → (∀ l : Nat, l < 24 → ¬ fr.testBit l = true → M' 113 (l : Int) = M 113 (l : Int)) → (∀ l : Nat, l < 24 → fr.testBit l = true → G ≤ M' 113 (l : Int)) → (∀ l : Nat, l < 24 → inR (M' 113 (l : Int))) → Q (bnR wt g n j fr acc) M') → wX12_bound_31 Q (O : Int) (n + 1) acc (j : Int) M := by
  intro n
  induction n with
  | zero =>
    intro j fr G acc M hj hfl hf hlow hG hgm hA hg21 hk
    unfold wX12_bound_31
    refine ⟨(inRof ⟨by omega, by omega⟩), ?_⟩
    rw [if_neg (by omega)]
    exact hk M FrB.refl hg21 (fun _ _ _ => rfl) (fun l hl z => absurd z (hlow l (by omega))) (fun l hl => by have := (hA l hl).1; exact (inRof ⟨by omega, by omega⟩))
  | succ n ih =>
    intro j fr G acc M hj hfl hf hlow hG hgm hA hg21 hk
    unfold wX12_bound_31
    refine ⟨(inRof ⟨by omega, by omega⟩), ?_⟩
    rw [if_pos (by omega)]
    have hb := bit01 (n := O) (j := j) (by omega) (by omega)
    have hAj := hA j (by omega)
    have skip : ¬ fr.testBit j = true → wX12_bound_31 Q (O : Int) (n + 1) acc ((j : Int) + 1) M := by
      intro hno
      refine ih (j + 1) fr G acc M (by omega) hfl hf (fun i hi z => by
        by_cases e : i = j
        · subst e; exact hno z
        · exact hlow i (by omega) z) (by omega) hgm hA hg21 (fun M' f' h1 h2 h3 h4 => ?_)
      have := hk M' f' (by unfold GOK; rw [if_neg hno]; exact h1) h2 h3 h4
      unfold bnR at this
      rw [if_neg hno] at this
      exact this
    by_cases q : O.testBit j = true
    · rw [if_neg (fun z => hb.2.mp z q)]
      refine ⟨⟨by omega, by omega⟩, (inRof ⟨by omega, by omega⟩), ?_⟩
      by_cases q2 : M 113 (j : Int) = -1
      · rw [if_pos q2]
        have hfj := (hAj.2 q).mp q2
        have hw := hgm.2.1 j (hU j q)
        obtain ⟨g1, g2, g3, g4⟩ := gp_spec hE (fun i hi => hU i (hf i hi)) (show j < 24 by omega) hfj
        refine b_logAt (x := 507 + 9 * (j : Int)) (by omega) (by omega) (by omega) ?_
        rw [up_ne (show 103 ≠ 113 by decide), hw.1, hg21]
        have emx : mxR wt (2 ^ j) 24 = wt j := by rw [mx_one (by omega), if_pos (by omega)]
        refine ⟨23 - j + 1, ?_⟩
        have := l_b87 (Q := Q) (k31 := wX12_bound_31 Q (O : Int) (n + 1)) (acc := acc) (j := j) (fr := fr) (G := G) (A0 := M 113) (g := g) (wt := wt) hO hU hf (by omega) hA (23 - j) (j + 1) (2 ^ j) (up M 113 (j : Int) G) (by omega) (pow24 (by omega)) (fun l hl => by rw [pow_bit] at hl; omega) (fun l hl => by rw [pow_bit] at hl; subst hl; exact hfj) (FrB.ug.gm hgm) (fun l hl => by
          by_cases e : l = j
          · subst e; rw [up_eq, if_pos (pow_bit.mpr rfl)]
          · rw [up_nei (by omega), if_neg (fun w => e (pow_bit.mp w).symm)]) (by rw [up_ne (by decide)]; exact hg21) (fun M1 f1 h1 h2 => ?_)
        · rw [emx] at this
          exact this
        · have egp : gpR g fr (23 - j) (j + 1) (2 ^ j) = gp g fr j := rfl
          rw [egp] at h1 ⊢
          have hsd : ∀ l, (sd fr (gp g fr j)).testBit l = true ↔ fr.testBit l = true ∧ ¬ (gp g fr j).testBit l = true := fun l => sd_bit hfl
          refine ih (j + 1) (sd fr (gp g fr j)) (G + 1) (acc + mxR wt (gp g fr j) 24) M1 (by omega) sd_lt (fun l hl => hf l ((hsd l).mp hl).1) (fun i hi z => by
            have z := (hsd i).mp z
            by_cases e : i = j
            · subst e; exact z.2 g2
            · exact hlow i (by omega) z.1) (by omega) ((FrB.ug.trans f1).gm hgm) (fun l hl => ?_) h2 (fun M2 f2 k1 k2 k3 k4 => ?_)
          · have ha := hA l hl
            rw [h1 l hl]
            by_cases y : (gp g fr j).testBit l = true
            · rw [if_pos y]
              exact ⟨by omega, fun _ => ⟨fun e => by omega, fun e => absurd y ((hsd l).mp e).2⟩⟩
            · rw [if_neg y]
              refine ⟨by omega, fun ho => ?_⟩
              rw [ha.2 ho]
              exact ⟨fun e => (hsd l).mpr ⟨e, y⟩, fun e => ((hsd l).mp e).1⟩
          · have fin := hk M2 ((FrB.ug.trans f1).trans f2) (by
              unfold GOK
              rw [if_pos hfj]
              refine ⟨fun l hl => ⟨k4 l hl, ?_⟩, k1⟩
              have ha := (hA l hl).1
              by_cases y : (sd fr (gp g fr j)).testBit l = true
              · have := k3 l hl y
                exact ⟨fun e => by omega, fun e => absurd e ((hsd l).mp y).2⟩
              · rw [k2 l hl y, h1 l hl]
                by_cases w : (gp g fr j).testBit l = true
                · rw [if_pos w]; exact ⟨fun _ => w, fun _ => rfl⟩
                · rw [if_neg w]; exact ⟨fun e => by omega, fun e => absurd e w⟩) (fun l hl hn => by
              rw [k2 l hl (fun y => hn ((hsd l).mp y).1), h1 l hl, if_neg (fun w => hn (g3 l w))]) (fun l hl hfr => by
              by_cases y : (sd fr (gp g fr j)).testBit l = true
              · have := k3 l hl y; omega
              · rw [k2 l hl y, h1 l hl]
                have w : (gp g fr j).testBit l = true := by
                  by_cases w : (gp g fr j).testBit l = true
                  · exact w
                  · exact absurd ((hsd l).mpr ⟨hfr, w⟩) y
                rw [if_pos w]; exact Int.le_refl _) k4
            unfold bnR at fin
            rw [if_pos hfj] at fin
            exact fin
      · rw [if_neg q2]
        exact skip (fun y => q2 ((hAj.2 q).mpr y))
    · rw [if_pos (hb.2.mpr q)]
      exact skip (fun y => q (hf j y))
theorem l_b2 {Q : Int → Mm → Prop} {v : Int} : ∀ (n j : Nat) (M : Mm), j + n = 24 → (∀ l : Nat, l < j → M 113 (l : Int) = -1) → (∀ M', FrB M M' → (∀ l : Nat, l < 24 → M' 113 (l : Int) = -1) → M' 102 21 = M 102 21 → wX12_bound_21 Q (O : Int) v M') → wX12_bound_2 Q (O : Int) v (n + 1) (j : Int) M := by
  intro n
  induction n with
  | zero =>
    intro j M hj hm hk
    unfold wX12_bound_2
    refine ⟨(inRof ⟨by omega, by omega⟩), ?_⟩
    rw [if_neg (by omega)]
    exact hk M FrB.refl (fun l hl => hm l (by omega)) rfl
  | succ n ih =>
    intro j M hj hm hk
    unfold wX12_bound_2
    refine ⟨(inRof ⟨by omega, by omega⟩), ?_⟩
    rw [if_pos (by omega)]
    refine ⟨⟨by omega, by omega⟩, ih (j + 1) _ (by omega) (fun l hl => ?_) (fun M' f' h1 h2 => hk M' (FrB.ug.trans f') h1 (by rw [h2, up_ne (by decide)]))⟩
    by_cases e : l = j
    · subst e; rw [up_eq]
    · rw [up_nei (by omega)]; exact hm l (by omega)
theorem bnR_acc : ∀ (n j fr : Nat) (acc : Int), bnR wt g n j fr acc = acc + bnR wt g n j fr 0
  | 0, _, _, acc => by show acc = acc + 0; omega
  | n + 1, j, fr, acc => by
    unfold bnR
    by_cases q : fr.testBit j = true
    · rw [if_pos q, if_pos q, bnR_acc n _ _ (acc + _), bnR_acc n _ _ (0 + _)]; omega
    · rw [if_neg q, if_neg q]; exact bnR_acc n _ _ acc
theorem b_mb {M : Mm} {v : Int} (hE : evn g U) (hO : O < 16777216) (hU : subs O U) (h : Gm M g wt U) (hk : ∀ M', FrB M M' → GOK g (M' 113) (M' 102 21) 24 0 O 0 → kk (v + bnd wt g O) M') : Bd (wX12_bound (O : Int) v M) kk := by
  apply Bd.of; unfold wX12_bound
  refine ⟨25, l_b2 24 0 M rfl (fun l hl => by omega) (fun M1 f1 h1 _ => ?_)⟩
  unfold wX12_bound_21
  refine ⟨25, l_b31 hE hO hU 24 0 O 0 v _ rfl hO (fun _ z => z) (fun i hi => by omega) (by omega) (FrB.un.gm (f1.gm h)) (fun l hl => ?_) up_eq (fun M2 f2 k1 _ _ _ => ?_)⟩
  · rw [up_ne (by decide), h1 l hl]
    exact ⟨by omega, fun ho => ⟨fun _ => ho, fun _ => rfl⟩⟩
  · rw [bnR_acc]
    exact hk M2 ((f1.trans FrB.un).trans f2) k1
end MB
