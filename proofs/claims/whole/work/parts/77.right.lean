/-! ===== the model's choice; the two are one ===== -/
theorem ft_slot {c : Nat} {i : Int} (h : ftb c i = true) : (c = 102 → i = 0 ∨ i = 14 ∨ i = 17 ∨ i = 25 ∨ i = 29 ∨ i = 38 ∨ i = 41 ∨ i = 47) ∧ (c = 86 → i = 2) ∧ (c = 88 → i = 2 ∨ i = 3) ∧ (c = 90 → i = 7 ∨ i = 12) := by
  have h1 : ∀ c ∈ ftC, c ≠ 102 ∧ c ≠ 86 ∧ c ≠ 88 ∧ c ≠ 90 := by decide
  have h2 : ∀ p ∈ ftS, (p.1 = 102 → p.2 = 0 ∨ p.2 = 14 ∨ p.2 = 17 ∨ p.2 = 25 ∨ p.2 = 29 ∨ p.2 = 38 ∨ p.2 = 41 ∨ p.2 = 47) ∧ (p.1 = 86 → p.2 = 2) ∧ (p.1 = 88 → p.2 = 2 ∨ p.2 = 3) ∧ (p.1 = 90 → p.2 = 7 ∨ p.2 = 12) := by decide
  unfold ftb at h
  rw [Bool.or_eq_true] at h
  rcases h with h | h
  · have := h1 c (List.contains_iff_mem.mp h)
    exact ⟨fun e => absurd e this.1, fun e => absurd e this.2.1, fun e => absurd e this.2.2.1, fun e => absurd e this.2.2.2⟩
  · exact h2 (c, i) (List.contains_iff_mem.mp h)
theorem Inv.fr2 {M M' : Mm} (hI : Inv M) (h : ∀ c i, scr.contains c = false → (c = 102 → i = 0 ∨ i = 14 ∨ i = 17 ∨ i = 25 ∨ i = 29 ∨ i = 38 ∨ i = 41 ∨ i = 47) → (c = 86 → i = 2) → (c = 88 → i = 2 ∨ i = 3) → (c = 90 → i = 7 ∨ i = 12) → M' c i = M c i) : Inv M' :=
  Inv.same (fun c i hf => h c i (ft_scr hf) (ft_slot hf).1 (ft_slot hf).2.1 (ft_slot hf).2.2.1 (ft_slot hf).2.2.2) hI
def bt (l : Nat) : Int := ((2 ^ (23 - l) : Nat) : Int)
def one (_ : Nat) : Int := 1
section Bits
variable {wt : Nat → Int} {T : Nat}
theorem bt_pos (l : Nat) : 0 < bt l := by unfold bt; have := Nat.two_pow_pos (23 - l); omega
theorem bt_dbl {l : Nat} (h : l < 23) : bt l = 2 * bt (l + 1) := by
  unfold bt
  have : 2 ^ (23 - l) = 2 ^ (23 - (l + 1)) * 2 := by rw [← Nat.pow_succ]; congr 1; omega
  omega
/-- what is behind l weighs less than l -/
theorem bt_tail : ∀ (k m : Nat), m + k = 23 → sumF bt T 24 < sumF bt T (m + 1) + bt m ∧ sumF bt T (m + 1) ≤ sumF bt T 24
  | 0, m, h => by
    have e : m = 23 := by omega
    subst e
    have := bt_pos 23
    exact ⟨by show sumF bt T 24 < sumF bt T 24 + bt 23; omega, Int.le_refl _⟩
  | k + 1, m, h => by
    have ih := bt_tail k (m + 1) (by omega)
    have e := bt_dbl (show m < 23 by omega)
    have hp := bt_pos (m + 1)
    have st : sumF bt T (m + 1 + 1) = if T.testBit (m + 1) = true then sumF bt T (m + 1) + bt (m + 1) else sumF bt T (m + 1) := rfl
    rw [st] at ih
    by_cases q : T.testBit (m + 1) = true
    · rw [if_pos q] at ih; omega
    · rw [if_neg q] at ih; omega
theorem bt_high {l : Nat} (hl : l < 24) (h : ∀ i, i < l + 1 → ¬ T.testBit i = true) : 0 ≤ SF bt T ∧ SF bt T < bt l := by
  have h1 := bt_tail (T := T) (23 - l) l (by omega)
  rw [sumF_zero (l + 1) h] at h1
  unfold SF
  omega
theorem bt_range : 0 ≤ SF bt T ∧ SF bt T < 16777216 := by
  have h1 := bt_tail (T := T) 23 0 rfl
  have e : sumF bt T (0 + 1) = if T.testBit 0 = true then 0 + bt 0 else 0 := rfl
  have e0 : bt 0 = 8388608 := by decide
  rw [e] at h1
  unfold SF
  by_cases q : T.testBit 0 = true
  · rw [if_pos q] at h1; omega
  · rw [if_neg q] at h1; omega
theorem sumF_cong {f : Nat → Int} {A C : Nat} : ∀ n : Nat, (∀ i, i < n → (A.testBit i = true ↔ C.testBit i = true)) → sumF f A n = sumF f C n
  | 0, _ => rfl
  | n + 1, h => by
    have ih := sumF_cong (f := f) n (fun i hi => h i (by omega))
    have hn := h n (by omega)
    unfold sumF
    by_cases q : A.testBit n = true
    · rw [if_pos q, if_pos (hn.mp q), ih]
    · rw [if_neg q, if_neg (fun z => q (hn.mpr z)), ih]
theorem bt_inj {A C : Nat} (hA : A < 16777216) (hC : C < 16777216) (h : SF bt A = SF bt C) : A = C := by
  have key : ∀ n, n ≤ 24 → ∀ i, i < n → (A.testBit i = true ↔ C.testBit i = true) := by
    intro n
    induction n with
    | zero => intro _ i hi; omega
    | succ n ih =>
      intro hn i hi
      have ih := ih (by omega)
      by_cases e : i = n
      · subst e
        have ec := sumF_cong (f := bt) i ih
        have t1 := bt_tail (T := A) (23 - i) i (by omega)
        have t2 := bt_tail (T := C) (23 - i) i (by omega)
        have s1 : sumF bt A (i + 1) = if A.testBit i = true then sumF bt A i + bt i else sumF bt A i := rfl
        have s2 : sumF bt C (i + 1) = if C.testBit i = true then sumF bt C i + bt i else sumF bt C i := rfl
        unfold SF at h
        by_cases q1 : A.testBit i = true
        · by_cases q2 : C.testBit i = true
          · exact ⟨fun _ => q2, fun _ => q1⟩
          · rw [if_pos q1] at s1; rw [if_neg q2] at s2; omega
        · by_cases q2 : C.testBit i = true
          · rw [if_neg q1] at s1; rw [if_pos q2] at s2; omega
          · exact ⟨fun z => absurd z q1, fun z => absurd z q2⟩
      · exact ih i (by omega)
  apply Nat.eq_of_testBit_eq
  intro i
  rw [Bool.eq_iff_iff]
  by_cases q : i < 24
  · exact key 24 (by omega) i q
  · exact ⟨fun z => absurd (bit_lt hA z) q, fun z => absurd (bit_lt hC z) q⟩
theorem key_sum : ∀ n : Nat, sumF (key wt) T n = sumF wt T n * 1073741824 + sumF one T n * 16777216 + sumF bt T n
  | 0 => rfl
  | n + 1 => by
    have ih := key_sum n
    unfold sumF
    by_cases q : T.testBit n = true
    · rw [if_pos q, if_pos q, if_pos q, if_pos q, ih]
      have : key wt n = wt n * 1073741824 + 16777216 + bt n := rfl
      have e1 : one n = 1 := rfl
      omega
    · rw [if_neg q, if_neg q, if_neg q, if_neg q, ih]
theorem SF_key : SF (key wt) T = SF wt T * 1073741824 + SF one T * 16777216 + SF bt T := key_sum 24
theorem one_range : 0 ≤ SF one T ∧ SF one T ≤ 24 := by
  have h1 := sumF_nonneg (f := one) (T := T) 24 (fun i _ _ => by unfold one; omega)
  have h2 := sumF_le (f := one) (T := T) (C := 1) (by omega) 24 (fun i _ _ => by unfold one; omega)
  unfold SF
  omega
theorem one_pop : ∀ n : Nat, sumF one T n = (pcR T n : Nat)
  | 0 => rfl
  | n + 1 => by
    have ih := one_pop n
    unfold sumF pcR
    by_cases q : T.testBit n = true
    · rw [if_pos q, if_pos q, ih]; have e1 : one n = 1 := rfl; omega
    · rw [if_neg q, if_neg q, ih]; omega
theorem SF_mono {f : Nat → Int} {A C : Nat} (h : subs A C) (hf : ∀ i, C.testBit i = true → 0 ≤ f i) : SF f A ≤ SF f C := by
  have key : ∀ n, sumF f A n ≤ sumF f C n := by
    intro n
    induction n with
    | zero => exact Int.le_refl _
    | succ n ih =>
      unfold sumF
      by_cases q : A.testBit n = true
      · rw [if_pos q, if_pos (h n q)]; omega
      · rw [if_neg q]
        by_cases q2 : C.testBit n = true
        · rw [if_pos q2]; have := hf n q2; omega
        · rw [if_neg q2]; exact ih
  exact key 24
end Bits
/-- graph and worths as the model holds them -/
def Gm (M : Mm) (g : Nat → Nat) (wt : Nat → Int) (U : Nat) : Prop := (∀ a : Nat, a < 24 → M 110 (a : Int) = (g a : Nat) ∧ g a < 16777216) ∧ (∀ l : Nat, U.testBit l = true → M 103 (507 + 9 * (l : Int)) = wt l ∧ 1 ≤ wt l ∧ wt l ≤ 100) ∧ U < 16777216
section ChM
variable {kk : Int → Mm → Prop} {g : Nat → Nat} {wt : Nat → Int} {U O T : Nat}
theorem Gm.fr {M M' : Mm} (h : Gm M g wt U) (h1 : M' 110 = M 110) (h2 : M' 103 = M 103) : Gm M' g wt U := by unfold Gm; rw [h1, h2]; exact h
theorem l_mw {M : Mm} {Q : Int → Mm → Prop} (h : Gm M g wt U) (hT : subs T U) (hTl : T < 16777216) (hk : Q (SF wt T) M) : ∀ (n j : Nat), j + n = 24 → wX12_worth_4 Q (T : Int) (n + 1) (sumF wt T j) (j : Int) M := by
  intro n
  induction n with
  | zero =>
    intro j hj
    unfold wX12_worth_4
    refine ⟨(inRof ⟨by omega, by omega⟩), ?_⟩
    rw [if_neg (by omega)]
    rw [show j = 24 by omega]
    exact hk
  | succ n ih =>
    intro j hj
    unfold wX12_worth_4
    refine ⟨(inRof ⟨by omega, by omega⟩), ?_⟩
    rw [if_pos (by omega)]
    have hb := bit01 (n := T) (j := j) (by omega) (by omega)
    have ih := ih (j + 1) (by omega)
    unfold sumF at ih
    by_cases c1 : T.testBit j = true
    · rw [if_pos (hb.1.mpr c1)]
      rw [if_pos c1] at ih
      refine b_logAt (x := 507 + 9 * (j : Int)) (by omega) (by omega) (by omega) ?_
      rw [(h.2.1 j (hT j c1)).1]
      exact ih
    · rw [if_neg (fun z => c1 (hb.1.mp z)), Int.add_zero]
      rw [if_neg c1] at ih
      exact ih
theorem b_mw {M : Mm} (h : Gm M g wt U) (hT : subs T U) (hTl : T < 16777216) (hk : kk (SF wt T) M) : Bd (wX12_worth (T : Int) M) kk := by
  apply Bd.of; unfold wX12_worth
  exact ⟨25, l_mw h hT hTl hk 24 0 rfl⟩
theorem l_low {M : Mm} {Q : Mm → Prop} {rc : Int → Int → Int → Int → Mm → (Mm → Prop) → Prop} {v2 v3 v4 : Int} (hO : O < 16777216) (h0 : O ≠ 0) (hk : ∀ l : Nat, l < 24 → O.testBit l = true → (∀ i, i < l → ¬ O.testBit i = true) → wX12_chooses_81 Q rc (O : Int) v2 v3 v4 (l : Int) M) : ∀ (n j : Nat), j + n = 24 → (∀ i, i < j → ¬ O.testBit i = true) → wX12_chooses_66 Q rc (O : Int) v2 v3 v4 (n + 1) (j : Int) M := by
  intro n
  induction n with
  | zero =>
    intro j hj hn
    exfalso
    apply h0
    apply Nat.eq_of_testBit_eq
    intro i
    rw [Nat.zero_testBit, ← Bool.not_eq_true]
    intro z
    exact hn i (by have := bit_lt hO z; omega) z
  | succ n ih =>
    intro j hj hn
    unfold wX12_chooses_66
    have hb := bit01 (n := O) (j := j) (by omega) (by omega)
    by_cases c1 : O.testBit j = true
    · rw [if_neg (fun z => hb.2.mp z c1)]
      exact hk j (by omega) c1 hn
    · rw [if_pos (hb.2.mpr c1)]
      exact ih (j + 1) (by omega) (fun i hi => by
        by_cases e : i = j
        · subst e; exact c1
        · exact hn i (by omega))
theorem b_chooses (hE : evn g U) : ∀ (f O ch : Nat) (w n bw bm : Int) (bs : Nat) (M : Mm) (kv : Mm → Prop), Gm M g wt U → subs O U → O < 16777216 → ch < 16777216 → bs < 16777216 → popc O < f → (0 ≤ w ∧ 0 ≤ n ∧ n + (popc O : Nat) ≤ 24 ∧ w ≤ 100 * n) → (0 ≤ bw ∧ bw ≤ 2400 ∧ -1 ≤ bm ∧ bm ≤ 24) → M 102 11 = (bs : Int) → M 102 12 = bw → M 102 13 = bm → (∀ i, O.testBit i = true → ¬ ch.testBit i = true) → (∀ T, cnd g O T → w + SF wt T = bw → n + SF one T = bm → SF bt ch + SF bt T < SF bt bs) → (∀ (M' : Mm) (bw' bm' : Int) (bs' : Nat), (∀ c : Nat, c ≠ 102 → M' c = M c) → (∀ i, i ≠ 11 → i ≠ 12 → i ≠ 13 → M' 102 i = M 102 i) → M' 102 11 = (bs' : Int) → M' 102 12 = bw' → M' 102 13 = bm' → bs' < 16777216 → (0 ≤ bw' ∧ bw' ≤ 2400 ∧ -1 ≤ bm' ∧ bm' ≤ 24) → Res (SF (key wt)) g O ch (w * 1073741824 + n * 16777216 + SF bt ch) (bw * 1073741824 + bm * 16777216 + SF bt bs) bs (bw' * 1073741824 + bm' * 16777216 + SF bt bs') bs' → kv M') → Bv (wX12_chooses f (O : Int) (ch : Int) w n M) kv := by
  intro f
  induction f with
  | zero => intro O ch w n bw bm bs M kv _ _ _ _ _ h; omega
  | succ f ih =>
    intro O ch w n bw bm bs M kv h hU hO hch hbs hf hv hb e1 e2 e3 hdis hpre hk
    apply Bv.of; unfold wX12_chooses
    have w0 := sumF_nonneg (f := wt) (T := O) 24 (fun i _ hi => by have := (h.2.1 i (hU i hi)).2.1; omega)
    have w1 := sumF_le (f := wt) (T := O) (C := 100) (by omega) 24 (fun i _ hi => (h.2.1 i (hU i hi)).2.2)
    have w0' : 0 ≤ SF wt O := w0
    have w1' : SF wt O ≤ 2400 := by unfold SF; omega
    have oe : SF one O = (popc O : Nat) := one_pop 24
    have pl := popc_le (n := O)
    have bb := bt_range (T := bs)
    have bc := bt_range (T := ch)
    have mono : ∀ T, cnd g O T → SF wt T ≤ SF wt O ∧ SF one T ≤ SF one O ∧ 0 ≤ SF one T := fun T hT => ⟨SF_mono hT.1 (fun i hi => by have := (h.2.1 i (hU i hi)).2.1; omega), SF_mono hT.1 (fun i _ => by unfold one; omega), one_range.1⟩
    have cut : (w + SF wt O < bw ∨ (w + SF wt O = bw ∧ n + SF one O ≤ bm)) → kv M := by
      intro hc
      refine hk M bw bm bs (fun _ _ => rfl) (fun _ _ _ _ => rfl) e1 e2 e3 hbs hb (Or.inl ⟨rfl, rfl, fun T hT => ?_⟩)
      have m := mono T hT
      have bT := bt_range (T := T)
      have hp := hpre T hT
      have bu : SF bt (ch ||| T) = SF bt ch + SF bt T := sumF_add 24 (fun i _ => by
        rw [Nat.testBit_or, Bool.or_eq_true]
        exact ⟨Iff.rfl, fun z => hdis i (hT.1 i z.2) z.1⟩)
      have bur := bt_range (T := ch ||| T)
      rw [SF_key]
      by_cases q1 : w + SF wt T = bw
      · by_cases q2 : n + SF one T = bm
        · have := hp q1 q2; omega
        · omega
      · omega
    refine b_mw h hU hO ?_
    rw [e2]
    refine ⟨(inRof ⟨by omega, by omega⟩), (inRof ⟨by omega, by omega⟩), ?_⟩
    have go : ¬ (w + SF wt O < bw ∨ (w + SF wt O = bw ∧ n + SF one O ≤ bm)) → wX12_chooses_42 kv (wX12_chooses f) (O : Int) (ch : Int) w n M := by
      intro hnc
      unfold wX12_chooses_42
      refine ⟨(inRof ⟨by omega, by omega⟩), ?_⟩
      by_cases q0 : O = 0
      · rw [if_pos (by omega)]
        subst q0
        rw [SF_nil, SF_nil] at hnc
        refine hk _ w n ch (fun c hc => by rw [up_cell hc, up_cell hc, up_cell hc]) (fun i h1 h2 h3 => by rw [up_nei h3, up_nei h2, up_nei h1]) (by rw [up_nei (by decide), up_nei (by decide), up_eq]) (by rw [up_nei (by decide), up_eq]) up_eq hch (by omega) (Or.inr ⟨0, cnd_zero, by rw [SF_nil]; omega, by rw [Nat.or_zero], by omega, fun T' hT' => ?_⟩)
        have : T' = 0 := by
          apply Nat.eq_of_testBit_eq
          intro i
          rw [Nat.zero_testBit, ← Bool.not_eq_true]
          intro z
          have := hT'.1 i z
          rw [Nat.zero_testBit] at this
          exact absurd this (by decide)
        subst this
        rw [SF_nil]
        omega
      · rw [if_neg (by omega)]
        refine ⟨25, l_low hO q0 (fun l l1 l3 llow => ?_) 24 0 rfl (fun i hi => by omega)⟩
        unfold wX12_chooses_81
        have hg := h.1 l l1
        have p1 := pow24 l1
        have kw := h.2.1 l (hU l l3)
        have hs : subs (sd O (2 ^ l)) O := fun i hi => ((sd_bit hO).mp hi).1
        have hs1 : subs (sd (sd O (2 ^ l)) (g l)) (sd O (2 ^ l)) := fun i hi => ((sd_bit sd_lt).mp hi).1
        have pl : popc (sd O (2 ^ l)) < popc O := pcR_less hs l3 (fun z => ((sd_bit hO).mp z).2 (pow_bit.mpr rfl)) 24 l1
        have ps : popc (sd (sd O (2 ^ l)) (g l)) ≤ popc (sd O (2 ^ l)) := pcR_sub hs1 24
        have ebt : SF bt (ch ||| 2 ^ l) = bt l + SF bt ch := SF_in l1 (hdis l l3)
        have btp := bt_pos l
        refine ⟨⟨by omega, by omega⟩, b_logAt (x := 507 + 9 * (l : Int)) (by omega) (by omega) (by omega) ?_⟩
        rw [kw.1, hg.1, shl1 (by omega), andnotN hO p1, andnotN sd_lt hg.2, lorN (by omega) (by omega)]
        refine ih (sd (sd O (2 ^ l)) (g l)) (ch ||| 2 ^ l) (w + wt l) (n + 1) bw bm bs M _ h (fun i hi => hU i (hs i (hs1 i hi))) sd_lt (or_lt hch l1) hbs (by omega) (by omega) hb e1 e2 e3 (fun i hi z => ?_) (fun T hT q1 q2 => ?_) (fun M1 bw1 bm1 bs1 f1 s1 g1 g2 g3 g4 g5 r1 => ?_)
        · rw [orb] at z
          rcases z with z | z
          · exact hdis i (hs i (hs1 i hi)) z
          · subst z; exact ((sd_bit hO).mp (hs1 l hi)).2 (pow_bit.mpr rfl)
        · have hp := cnd_put hO hE hU l3 hT
          have i1 : SF wt (T ||| 2 ^ l) = wt l + SF wt T := SF_in l1 hp.2
          have i2 : SF one (T ||| 2 ^ l) = one l + SF one T := SF_in l1 hp.2
          have i3 : SF bt (T ||| 2 ^ l) = bt l + SF bt T := SF_in l1 hp.2
          have i4 : one l = 1 := rfl
          have := hpre _ hp.1 (by omega) (by omega)
          omega
        · have hg1 : Gm M1 g wt U := h.fr (f1 110 (by decide)) (f1 103 (by decide))
          refine ih (sd O (2 ^ l)) ch w n bw1 bm1 bs1 M1 _ hg1 (fun i hi => hU i (hs i hi)) sd_lt hch g4 (by omega) (by omega) g5 g1 g2 g3 (fun i hi => hdis i (hs i hi)) (fun T hT q1 q2 => ?_) (fun M2 bw2 bm2 bs2 f2 s2 g6 g7 g8 g9 g10 r2 => ?_)
          · rcases r1 with ⟨x1, x2, -⟩ | ⟨T1, x1, x2, x3, -, -⟩
            · have b1 := bt_range (T := bs1)
              have hb1 : bw1 = bw ∧ bm1 = bm := by rw [x2] at x1; omega
              rw [x2]
              exact hpre T (cnd_up hO hT) (by omega) (by omega)
            · have hT1 : ¬ T1.testBit l = true := (cnd_put hO hE hU l3 x1).2
              have e4 : SF bt bs1 = SF bt (ch ||| 2 ^ l) + SF bt T1 := by
                rw [x3]
                exact sumF_add 24 (fun i _ => by
                  rw [Nat.testBit_or, Bool.or_eq_true]
                  refine ⟨Iff.rfl, fun z => ?_⟩
                  have zi := hs i (hs1 i (x1.1 i z.2))
                  have z1 := z.1
                  rw [orb] at z1
                  rcases z1 with z1 | z1
                  · exact hdis i zi z1
                  · subst z1; exact hT1 z.2)
              have h5 := bt_range (T := T1)
              have h6 := bt_high (T := T) l1 (fun i hi z => by
                have zi := hT.1 i z
                have zo := (sd_bit hO).mp zi
                by_cases e : i = l
                · subst e; exact zo.2 (pow_bit.mpr rfl)
                · exact llow i (by omega) zo.1)
              omega
          · refine hk M2 bw2 bm2 bs2 (fun c hc => by rw [f2 c hc, f1 c hc]) (fun i a1 a2 a3 => by rw [s2 i a1 a2 a3, s1 i a1 a2 a3]) g6 g7 g8 g9 g10 ?_
            refine res_comb hO hE hU l3 (ch := ch) (b1 := bw1 * 1073741824 + bm1 * 16777216 + SF bt bs1) (bs1 := bs1) ?_ r2
            have ek : key wt l = wt l * 1073741824 + 16777216 + bt l := rfl
            have ev : (w + wt l) * 1073741824 + (n + 1) * 16777216 + SF bt (ch ||| 2 ^ l) = w * 1073741824 + n * 16777216 + SF bt ch + key wt l := by omega
            rw [ev] at r1
            exact r1
    by_cases c1 : w + SF wt O < bw
    · rw [if_pos c1]; exact cut (Or.inl c1)
    · rw [if_neg c1]
      by_cases c2 : w + SF wt O = bw
      · rw [if_pos c2]
        refine b_ones (by omega) ?_
        rw [e3]
        refine ⟨(inRof ⟨by omega, by omega⟩), (inRof ⟨by omega, by omega⟩), ?_⟩
        by_cases c3 : n + (popc O : Nat) ≤ bm
        · rw [if_pos c3]; exact cut (Or.inr ⟨c2, by omega⟩)
        · rw [if_neg c3]; exact go (by omega)
      · rw [if_neg c2]; exact go (by omega)
/-- T is the one with the greatest key -/
def Top (g : Nat → Nat) (wt : Nat → Int) (U T : Nat) : Prop := cnd g U T ∧ ∀ T', cnd g U T' → SF (key wt) T' ≤ SF (key wt) T
theorem top_one {A C : Nat} (hU : U < 16777216) (hA : Top g wt U A) (hC : Top g wt U C) (hw : ∀ i, U.testBit i = true → 0 ≤ wt i) : A = C := by
  have h1 := hA.2 C hC.1
  have h2 := hC.2 A hA.1
  have e : SF (key wt) A = SF (key wt) C := by omega
  rw [SF_key, SF_key] at e
  have a1 := one_range (T := A)
  have a2 := bt_range (T := A)
  have c1 := one_range (T := C)
  have c2 := bt_range (T := C)
  exact bt_inj (cnd_lt hU hA.1) (cnd_lt hU hC.1) (by omega)
theorem b_best {M : Mm} (hE : evn g U) (h : Gm M g wt U) (hk : ∀ (M' : Mm) (T : Nat), (∀ c : Nat, c ≠ 102 → M' c = M c) → (∀ i, i ≠ 11 → i ≠ 12 → i ≠ 13 → M' 102 i = M 102 i) → M' 102 11 = (T : Int) → T < 16777216 → Top g wt U T → kk (SF wt T) M') : Bd (wX12_best (U : Int) M) kk := by
  apply Bd.of; unfold wX12_best
  have pl := popc_le (n := U)
  refine b_chooses (wt := wt) hE 30 U 0 0 0 0 (-1) 0 _ _ (h.fr (by rw [up_cell (by decide), up_cell (by decide), up_cell (by decide)]) (by rw [up_cell (by decide), up_cell (by decide), up_cell (by decide)])) (fun _ z => z) h.2.2 (by decide) (by decide) (by omega) (by omega) (by omega) (by rw [up_nei (by decide), up_nei (by decide), up_eq]; rfl) (by rw [up_nei (by decide), up_eq]) up_eq (fun i _ z => by rw [Nat.zero_testBit] at z; exact absurd z (by decide)) (fun T hT _ q => by have := one_range (T := T); omega) (fun M' bw bm bs f1 s1 g1 g2 g3 g4 g5 r => ?_)
  rw [SF_nil] at r
  rcases r with ⟨-, -, r⟩ | ⟨T, r1, r2, r3, r4, r5⟩
  · have := r 0 cnd_zero
    rw [SF_nil] at this
    omega
  · rw [Nat.zero_or] at r3
    subst r3
    have hw : bw = SF wt bs := by
      rw [SF_key] at r2
      have a1 := one_range (T := bs)
      omega
    rw [g2, hw]
    refine hk M' bs (fun c hc => by rw [f1 c hc, up_cell hc, up_cell hc, up_cell hc]) (fun i a1 a2 a3 => by rw [s1 i a1 a2 a3, up_nei a3, up_nei a2, up_nei a1]) g1 g4 ⟨r1, fun T' hT' => ?_⟩
    have := r5 T' hT'
    omega
end ChM
