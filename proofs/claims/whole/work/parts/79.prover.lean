/-! ===== Prover: what is written ===== -/
def pNum (l : Nat) : List Int := if l ≤ 9 then [48 + (l : Int)] else [48 + ((l / 10 : Nat) : Int), 48 + ((l % 10 : Nat) : Int)]
def gpB (x fi : Nat) : Nat → Nat → List Int
  | 0, _ => [59]
  | n + 1, i => if x.testBit i = true then (if i ≤ fi then pNum i else 44 :: pNum i) ++ gpB x fi n (i + 1) else gpB x fi n (i + 1)
def pGs (g : Nat → Nat) : Nat → Nat → Nat → List Int
  | 0, _, _ => [93]
  | n + 1, j, fr => if fr.testBit j = true then (if popc (gp g fr j) ≤ 1 then pGs g n (j + 1) (sd fr (gp g fr j)) else gpB (gp g fr j) j (24 - j) j ++ pGs g n (j + 1) (sd fr (gp g fr j))) else pGs g n (j + 1) fr
def leafB (g : Nat → Nat) (O : Nat) : List Int := 91 :: pGs g 24 0 O
def wr (g : Nat → Nat) (wt : Nat → Int) (goal : Int) : Nat → Nat → Int → List Int → List Int
  | 0, _, _, L => L
  | f + 1, O, h, L => if 2000 < L.length then L else if bz g O = -1 ∨ h + bnd wt g O ≤ goal then L ++ leafB g O else
      wr g wt goal f (sd O (2 ^ (bz g O).toNat)) h (wr g wt goal f (sd (sd O (2 ^ (bz g O).toNat)) (g (bz g O).toNat)) (h + wt (bz g O).toNat) (L ++ (40 :: pNum (bz g O).toNat))) ++ [41]
theorem pNum_len (l : Nat) : (pNum l).length ≤ 2 := by unfold pNum; split <;> simp
theorem gpB_len (x fi : Nat) : ∀ n i : Nat, (gpB x fi n i).length ≤ 3 * n + 1
  | 0, _ => by show 1 ≤ _; omega
  | n + 1, i => by
    have ih := gpB_len x fi n (i + 1)
    have hp := pNum_len i
    unfold gpB
    by_cases q : x.testBit i = true
    · rw [if_pos q, List.length_append]
      by_cases q2 : i ≤ fi
      · rw [if_pos q2]; omega
      · rw [if_neg q2, List.length_cons]; omega
    · rw [if_neg q]; omega
theorem pGs_len (g : Nat → Nat) : ∀ n j fr : Nat, (pGs g n j fr).length ≤ 80 * n + 1
  | 0, _, _ => by show 1 ≤ _; omega
  | n + 1, j, fr => by
    have i1 := pGs_len g n (j + 1) (sd fr (gp g fr j))
    have i2 := pGs_len g n (j + 1) fr
    have hg := gpB_len (gp g fr j) j (24 - j) j
    unfold pGs
    by_cases q : fr.testBit j = true
    · rw [if_pos q]
      by_cases q2 : popc (gp g fr j) ≤ 1
      · rw [if_pos q2]; omega
      · rw [if_neg q2, List.length_append]; omega
    · rw [if_neg q]; omega
theorem wr_len {g : Nat → Nat} {wt : Nat → Int} {goal : Int} : ∀ (f O : Nat) (h : Int) (L : List Int), (wr g wt goal f O h L).length ≤ max L.length (5000 + f) ∧ L.length ≤ (wr g wt goal f O h L).length
  | 0, O, h, L => by show L.length ≤ _ ∧ L.length ≤ L.length; omega
  | f + 1, O, h, L => by
    unfold wr
    by_cases q : 2000 < L.length
    · rw [if_pos q]; omega
    · rw [if_neg q]
      by_cases q2 : bz g O = -1 ∨ h + bnd wt g O ≤ goal
      · rw [if_pos q2, List.length_append]
        have := pGs_len g 24 0 O
        unfold leafB
        rw [List.length_cons]
        omega
      · rw [if_neg q2]
        have hp := pNum_len (bz g O).toNat
        have e : (L ++ (40 :: pNum (bz g O).toNat)).length = L.length + (pNum (bz g O).toNat).length + 1 := by rw [List.length_append, List.length_cons]; omega
        have i1 := wr_len (g := g) (wt := wt) (goal := goal) f (sd (sd O (2 ^ (bz g O).toNat)) (g (bz g O).toNat)) (h + wt (bz g O).toNat) (L ++ (40 :: pNum (bz g O).toNat))
        have i2 := wr_len (g := g) (wt := wt) (goal := goal) f (sd O (2 ^ (bz g O).toNat)) h (wr g wt goal f (sd (sd O (2 ^ (bz g O).toNat)) (g (bz g O).toNat)) (h + wt (bz g O).toNat) (L ++ (40 :: pNum (bz g O).toNat)))
        rw [List.length_append]
        show _ + 1 ≤ _ ∧ _ ≤ _ + 1
        omega
theorem getD_app {L : List Int} {x : Int} {i : Nat} : (L ++ [x]).getD i 0 = if i < L.length then L.getD i 0 else if i = L.length then x else 0 := by
  rw [List.getD_eq_getElem?_getD, List.getD_eq_getElem?_getD]
  by_cases q : i < L.length
  · rw [if_pos q, List.getElem?_append_left q]
  · rw [if_neg q, List.getElem?_append_right (by omega)]
    by_cases q2 : i = L.length
    · rw [if_pos q2, q2, Nat.sub_self]; rfl
    · rw [if_neg q2]
      obtain ⟨m, hm⟩ : ∃ m, i - L.length = m + 1 := ⟨i - L.length - 1, by omega⟩
      rw [hm]
      rfl
/-- the class has written L -/
def PW (M : Mm) (L : List Int) (kp : Bool) : Prop := M 86 4 = (L.length : Int) ∧ M 86 5 = (if kp = true then 1 else 0) ∧ (kp = true → ∀ i : Nat, i < L.length → i < 2000 → M 87 (i : Int) = L.getD i 0)
def FrP (M M' : Mm) (kp : Bool) : Prop := (∀ c : Nat, c ≠ 86 → c ≠ 87 → M' c = M c) ∧ (∀ i, i ≠ 4 → M' 86 i = M 86 i) ∧ (kp = false → M' 87 = M 87)
theorem FrP.refl {M : Mm} {kp : Bool} : FrP M M kp := ⟨fun _ _ _ => rfl, fun _ _ => rfl, fun _ => rfl⟩
theorem FrP.trans {M M1 M2 : Mm} {kp : Bool} (h1 : FrP M M1 kp) (h2 : FrP M1 M2 kp) : FrP M M2 kp := ⟨fun c a b => (h2.1 c a b).trans (h1.1 c a b), fun i a => (h2.2.1 i a).trans (h1.2.1 i a), fun a => (h2.2.2 a).trans (h1.2.2 a)⟩
section Prover
variable {kv : Mm → Prop} {kk : Int → Mm → Prop} {g : Nat → Nat} {wt : Nat → Int} {U O : Nat} {kp : Bool}
theorem FrP.gx {M M' : Mm} (h : FrP M M' kp) (hg : Gx M g wt U) : Gx M' g wt U := hg.fr (h.1 84 (by decide) (by decide)) (h.1 20 (by decide) (by decide))
set_option maxRecDepth 100000 in
theorem b_put {M : Mm} {L : List Int} {x : Int} (h : PW M L kp) (hl : L.length ≤ 10000) (hk : ∀ M', FrP M M' kp → PW M' (L ++ [x]) kp → kv M') : Bv (wX8_put x M) kv := by
  obtain ⟨h1, h2, h3⟩ := h
  have el : (L ++ [x]).length = L.length + 1 := by rw [List.length_append]; rfl
  apply Bv.of; unfold wX8_put
  rw [h1, h2]
  cases kp with
  | false =>
    refine ⟨inR0, ?_⟩
    rw [if_pos (by rfl)]
    refine hk _ ⟨fun c a b => up_cell a, fun i a => up_nei a, fun _ => up_cell (by decide)⟩ ⟨by rw [up_eq, el]; omega, by rw [up_nei (by decide)]; exact h2, fun z => absurd z (by decide)⟩
  | true =>
    refine ⟨inR1, ?_⟩
    rw [if_neg (show ¬ (if true = true then (1 : Int) else 0) = 0 by decide)]
    refine ⟨(inRof ⟨by omega, by omega⟩), ?_⟩
    by_cases q : L.length < 2000
    · rw [if_pos (by omega)]
      refine ⟨⟨by omega, by omega⟩, hk _ ⟨fun c a b => by rw [up_cell a, up_cell b], fun i a => by rw [up_nei a, up_ne (by decide)], fun z => absurd z (by decide)⟩ ⟨by rw [up_eq, el]; omega, by rw [up_nei (by decide), up_ne (by decide)]; exact h2, fun _ i hi hi2 => ?_⟩⟩
      rw [up_ne (by decide), getD_app]
      by_cases e : i = L.length
      · rw [e, up_eq, if_neg (by omega), if_pos rfl]
      · rw [up_nei (by omega), if_pos (by omega)]; exact h3 rfl i (by omega) hi2
    · rw [if_neg (by omega)]
      refine hk _ ⟨fun c a b => up_cell a, fun i a => up_nei a, fun z => absurd z (by decide)⟩ ⟨by rw [up_eq, el]; omega, by rw [up_nei (by decide)]; exact h2, fun _ i hi hi2 => ?_⟩
      rw [up_ne (by decide), getD_app, if_pos (by omega)]
      exact h3 rfl i (by omega) hi2
theorem b_putN {M : Mm} {L : List Int} {l : Nat} (h : PW M L kp) (hn : l < 24) (hl : L.length ≤ 9000) (hk : ∀ M', FrP M M' kp → PW M' (L ++ pNum l) kp → kv M') : Bv (wX8_putNumber (l : Int) M) kv := by
  apply Bv.of; unfold wX8_putNumber
  refine ⟨(inRof ⟨by omega, by omega⟩), ?_⟩
  have e1 : Int.tmod (l : Int) 10 = ((l % 10 : Nat) : Int) := by rw [Int.tmod_eq_emod_of_nonneg (by omega)]; omega
  have e2 : Int.tdiv (l : Int) 10 = ((l / 10 : Nat) : Int) := by rw [Int.tdiv_eq_ediv_of_nonneg (by omega)]; omega
  rw [e1, e2]
  unfold pNum at hk
  by_cases q : l ≤ 9
  · rw [if_pos (by omega)]
    rw [if_pos q] at hk
    rw [show l % 10 = l by omega]
    exact b_put h (by omega) hk
  · rw [if_neg (by omega)]
    rw [if_neg q] at hk
    refine b_put h (by omega) (fun M1 f1 p1 => b_put p1 (by rw [List.length_append]; show L.length + 1 ≤ _; omega) (fun M2 f2 p2 => hk M2 (f1.trans f2) ?_))
    rw [List.append_assoc] at p2
    exact p2
theorem l_wg {Q : Mm → Prop} {x fi : Nat} (hx : x < 16777216) (hfi : fi < 24) : ∀ (n i : Nat) (M : Mm) (L : List Int), i + n = 24 → PW M L kp → L.length + 3 * n ≤ 8000 → (∀ M', FrP M M' kp → PW M' (L ++ gpB x fi n i) kp → Q M') → wX8_writeGroup_2 Q (fi : Int) (x : Int) (n + 1) (i : Int) M := by
  intro n
  induction n with
  | zero =>
    intro i M L hi h hl hk
    unfold wX8_writeGroup_2
    refine ⟨(inRof ⟨by omega, by omega⟩), ?_⟩
    rw [if_neg (by omega)]
    exact b_put h (by omega) hk
  | succ n ih =>
    intro i M L hi h hl hk
    unfold wX8_writeGroup_2
    refine ⟨(inRof ⟨by omega, by omega⟩), ?_⟩
    rw [if_pos (by omega)]
    have hb := bit01 (n := x) (j := i) (by omega) (by omega)
    have hp := pNum_len i
    unfold gpB at hk
    by_cases q : x.testBit i = true
    · rw [if_pos (hb.1.mpr q)]
      rw [if_pos q] at hk
      refine ⟨(inRof ⟨by omega, by omega⟩), ?_⟩
      by_cases q2 : i ≤ fi
      · rw [if_pos (by omega)]
        rw [if_pos q2] at hk
        refine b_putN h (by omega) (by omega) (fun M1 f1 p1 => ih (i + 1) M1 _ (by omega) p1 (by rw [List.length_append]; omega) (fun M2 f2 p2 => hk M2 (f1.trans f2) ?_))
        rw [List.append_assoc] at p2
        exact p2
      · rw [if_neg (by omega)]
        rw [if_neg q2] at hk
        refine b_put h (by omega) (fun M0 f0 p0 => b_putN p0 (by omega) (by rw [List.length_append]; show L.length + 1 ≤ _; omega) (fun M1 f1 p1 => ih (i + 1) M1 _ (by omega) p1 (by rw [List.length_append, List.length_append]; show L.length + 1 + _ + _ ≤ _; omega) (fun M2 f2 p2 => hk M2 ((f0.trans f1).trans f2) ?_)))
        rw [List.append_assoc, List.append_assoc] at p2
        exact p2
    · rw [if_neg (fun z => q (hb.1.mp z))]
      rw [if_neg q] at hk
      exact ih (i + 1) M L (by omega) h (by omega) hk
theorem l_wgs {Q : Mm → Prop} (hE : evn g U) : ∀ (n j fr : Nat) (M : Mm) (L : List Int), j + n = 24 → fr < 16777216 → subs fr U → Gx M g wt U → PW M L kp → L.length + 80 * n ≤ 7000 → (∀ M', FrP M M' kp → PW M' (L ++ pGs g n j fr) kp → Q M') → wX8_writeGroups_10 Q (n + 1) (fr : Int) (j : Int) M := by
  intro n
  induction n with
  | zero =>
    intro j fr M L hj hf hs hg h hl hk
    unfold wX8_writeGroups_10
    refine ⟨(inRof ⟨by omega, by omega⟩), ?_⟩
    rw [if_neg (by omega)]
    exact b_put h (by omega) hk
  | succ n ih =>
    intro j fr M L hj hf hs hg h hl hk
    unfold wX8_writeGroups_10
    refine ⟨(inRof ⟨by omega, by omega⟩), ?_⟩
    rw [if_pos (by omega)]
    have hb := bit01 (n := fr) (j := j) (by omega) (by omega)
    unfold pGs at hk
    by_cases q : fr.testBit j = true
    · rw [if_pos (hb.1.mpr q)]
      rw [if_pos q] at hk
      obtain ⟨g1, g2, g3, g4⟩ := gp_spec hE hs (show j < 24 by omega) q
      have pl := popc_le (n := gp g fr j)
      have hgl := gpB_len (gp g fr j) j (24 - j) j
      refine b_gp hg hf (by omega) (b_bits g1 ⟨(inRof ⟨by omega, by omega⟩), ?_⟩)
      rw [andnotN hf g1]
      by_cases q2 : popc (gp g fr j) ≤ 1
      · rw [if_pos (by omega)]
        rw [if_pos q2] at hk
        exact ih (j + 1) _ M L (by omega) sd_lt (fun l hl' => hs l ((sd_bit hf).mp hl').1) hg h (by omega) hk
      · rw [if_neg (by omega)]
        rw [if_neg q2] at hk
        apply Bv.of; unfold wX8_writeGroup
        refine ⟨24 - j + 1, l_wg g1 (by omega) (24 - j) j M L (by omega) h (by omega) (fun M1 f1 p1 => ?_)⟩
        refine ih (j + 1) _ M1 _ (by omega) sd_lt (fun l hl' => hs l ((sd_bit hf).mp hl').1) (f1.gx hg) p1 (by rw [List.length_append]; omega) (fun M2 f2 p2 => hk M2 (f1.trans f2) ?_)
        rw [List.append_assoc] at p2
        exact p2
    · rw [if_neg (fun z => q (hb.1.mp z))]
      rw [if_neg q] at hk
      exact ih (j + 1) fr M L (by omega) hf hs hg h (by omega) hk
theorem b_wgs {M : Mm} {L : List Int} (hE : evn g U) (hO : subs O U) (hOl : O < 16777216) (hg : Gx M g wt U) (h : PW M L kp) (hl : L.length ≤ 3000) (hk : ∀ M', FrP M M' kp → PW M' (L ++ leafB g O) kp → kv M') : Bv (wX8_writeGroups (O : Int) M) kv := by
  apply Bv.of; unfold wX8_writeGroups
  refine b_put h (by omega) (fun M1 f1 p1 => ⟨25, l_wgs hE 24 0 O M1 _ rfl hOl hO (f1.gx hg) p1 (by rw [List.length_append]; show L.length + 1 + _ ≤ _; omega) (fun M2 f2 p2 => hk M2 (f1.trans f2) ?_)⟩)
  rw [List.append_assoc] at p2
  exact p2
theorem l_xb {M : Mm} {Q : Int → Mm → Prop} (h : Gx M g wt U) (hE : evn g U) : ∀ (n j fr : Nat) (acc : Int), j + n = 24 → fr < 16777216 → subs fr U → Q (bnR wt g n j fr acc) M → wX8_bound_7 Q (n + 1) (fr : Int) acc (j : Int) M := by
  intro n
  induction n with
  | zero =>
    intro j fr acc hj hl hs hk
    unfold wX8_bound_7
    refine ⟨(inRof ⟨by omega, by omega⟩), ?_⟩
    rw [if_neg (by omega)]
    exact hk
  | succ n ih =>
    intro j fr acc hj hl hs hk
    unfold wX8_bound_7
    refine ⟨(inRof ⟨by omega, by omega⟩), ?_⟩
    rw [if_pos (by omega)]
    have hb := bit01 (n := fr) (j := j) (by omega) (by omega)
    unfold bnR at hk
    by_cases c1 : fr.testBit j = true
    · rw [if_pos (hb.1.mpr c1)]
      rw [if_pos c1] at hk
      obtain ⟨g1, g2, g3, g4⟩ := gp_spec hE hs (show j < 24 by omega) c1
      refine b_gp h hl (by omega) (b_gw h (fun i hi => hs i (g3 i hi)) g1 ?_)
      rw [andnotN hl g1]
      exact ih (j + 1) _ _ (by omega) sd_lt (fun l hl' => hs l ((sd_bit hl).mp hl').1) hk
    · rw [if_neg (fun z => c1 (hb.1.mp z))]
      rw [if_neg c1] at hk
      exact ih (j + 1) _ _ (by omega) hl hs hk
theorem b_xb {M : Mm} (h : Gx M g wt U) (hE : evn g U) (hO : subs O U) (hl : O < 16777216) (hk : kk (bnd wt g O) M) : Bd (wX8_bound (O : Int) M) kk := by
  apply Bd.of; unfold wX8_bound
  exact ⟨25, l_xb h hE 24 0 O 0 rfl hl hO hk⟩
theorem b_write {goal : Int} (hE : evn g U) (hgo : inR goal) : ∀ (f O dep : Nat) (v : Int) (M : Mm) (L : List Int) (kv : Mm → Prop), Gx M g wt U → subs O U → O < 16777216 → popc O < f → f ≤ 30 → dep + popc O ≤ 24 → (0 ≤ v ∧ v ≤ 100 * (dep : Int)) → L.length ≤ 6000 → PW M L kp → M 86 3 = goal → (∀ M', FrP M M' kp → PW M' (wr g wt goal f O v L) kp → kv M') → Bv (wX8_write f (O : Int) v (dep : Int) M) kv := by
  intro f
  induction f with
  | zero => intro O dep v M L kv _ _ _ h; omega
  | succ f ih =>
    intro O dep v M L kv h hU hO hf hf30 hd hv hl hw hgl hk
    apply Bv.of; unfold wX8_write
    refine ⟨(inRof ⟨by omega, by omega⟩), ?_⟩
    rw [if_pos (by omega), hw.1]
    refine ⟨(inRof ⟨by omega, by omega⟩), ?_⟩
    unfold wr at hk
    by_cases q : 2000 < L.length
    · rw [if_neg (by omega)]
      rw [if_pos q] at hk
      exact hk M FrP.refl hw
    · rw [if_pos (by omega)]
      rw [if_neg q] at hk
      refine b_bz h hO ?_
      by_cases c2 : bz g O = -1
      · rw [c2, if_pos rfl]
        rw [if_pos (Or.inl c2)] at hk
        exact ⟨(inRl (by decide)), b_wgs hE hU hO h hw (by omega) hk⟩
      · obtain ⟨l, l1, l2, l3⟩ := bz_some c2
        rw [if_neg c2]
        have br := bnR_range (f := wt) (C := 100) (by omega) hE (fun i hi => (h.2.1 i hi).2.2) 24 0 O 0 rfl hO hU
        have br' : 0 ≤ bnd wt g O ∧ bnd wt g O ≤ 2400 := by unfold bnd; omega
        refine ⟨by rw [l2]; exact (inRof ⟨by omega, by omega⟩), b_xb h hE hU hO ?_⟩
        rw [hgl]
        refine ⟨(inRof ⟨by omega, by omega⟩), hgo, ?_⟩
        by_cases c3 : v + bnd wt g O ≤ goal
        · rw [if_pos c3]
          rw [if_pos (Or.inr c3)] at hk
          exact b_wgs hE hU hO h hw (by omega) hk
        · rw [if_neg c3]
          rw [if_neg (fun z => by rcases z with z | z; exact c2 z; exact c3 z), l2, Int.toNat_natCast] at hk
          rw [l2]
          have hp := pNum_len l
          refine b_put hw (by omega) (fun M1 f1 p1 => b_putN p1 l1 (by rw [List.length_append]; show L.length + 1 ≤ _; omega) (fun M2 f2 p2 => ?_))
          rw [List.append_assoc] at p2
          have g2 := f2.gx (f1.gx h)
          have hg := g2.1 l l1
          have hwt := g2.2.1 l (hU l l3)
          have p1' := pow24 l1
          have hs : subs (sd O (2 ^ l)) O := fun i hi => ((sd_bit hO).mp hi).1
          have hs1 : subs (sd (sd O (2 ^ l)) (g l)) (sd O (2 ^ l)) := fun i hi => ((sd_bit sd_lt).mp hi).1
          have pl : popc (sd O (2 ^ l)) < popc O := pcR_less hs l3 (fun z => ((sd_bit hO).mp z).2 (pow_bit.mpr rfl)) 24 l1
          have ps : popc (sd (sd O (2 ^ l)) (g l)) ≤ popc (sd O (2 ^ l)) := pcR_sub hs1 24
          have eL : (L ++ ([40] ++ pNum l)).length = L.length + (pNum l).length + 1 := by rw [List.length_append, List.length_append]; show _ + (1 + _) = _; omega
          rw [hg.1, hwt.1, shl1 (by omega), andnotN hO p1', andnotN sd_lt hg.2, show (dep : Int) + 1 = ((dep + 1 : Nat) : Int) by omega]
          have w1 := wr_len (g := g) (wt := wt) (goal := goal) f (sd (sd O (2 ^ l)) (g l)) (v + wt l) (L ++ ([40] ++ pNum l))
          have w2 := wr_len (g := g) (wt := wt) (goal := goal) f (sd O (2 ^ l)) v (wr g wt goal f (sd (sd O (2 ^ l)) (g l)) (v + wt l) (L ++ ([40] ++ pNum l)))
          refine ⟨⟨by omega, by omega⟩, ih _ (dep + 1) (v + wt l) M2 _ _ g2 (fun i hi => hU i (hs i (hs1 i hi))) sd_lt (by omega) (by omega) (by omega) (by omega) (by omega) p2 (by rw [f2.2.1 3 (by decide), f1.2.1 3 (by decide)]; exact hgl) (fun M3 f3 p3 => ?_)⟩
          refine ih _ (dep + 1) v M3 _ _ (f3.gx g2) (fun i hi => hU i (hs i hi)) sd_lt (by omega) (by omega) (by omega) (by omega) (by omega) p3 (by rw [f3.2.1 3 (by decide), f2.2.1 3 (by decide), f1.2.1 3 (by decide)]; exact hgl) (fun M4 f4 p4 => ?_)
          exact b_put p4 (by omega) (fun M5 f5 p5 => hk M5 ((((f1.trans f2).trans f3).trans f4).trans f5) p5)
end Prover
