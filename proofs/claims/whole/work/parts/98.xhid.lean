/-! ===== the class's hidden cleanings ===== -/
abbrev Hst := Int × Int × Int × Int
def ofH (st : Hst) (c n a b : Int) : Hst := if c < st.1 then (c, n, a, b) else st
def h1R (ct c : Nat → Int) : Nat → Nat → Hst → Hst
  | 0, _, st => st
  | n + 1, d, st => h1R ct c n (d + 1) (if ct d = 0 then ofH st (c d) 1 (d : Int) (-1) else st)
def h2I (ct : Nat → Int) (c : Nat → Nat → Int) (a : Nat) : Nat → Nat → Hst → Hst
  | 0, _, st => st
  | n + 1, b, st => h2I ct c a n (b + 1) (if ct b = 0 then ofH st (c a b) 2 (a : Int) (b : Int) else st)
def h2O (ct : Nat → Int) (c : Nat → Nat → Int) : Nat → Nat → Hst → Hst
  | 0, _, st => st
  | n + 1, a, st => h2O ct c n (a + 1) (if ct a = 0 then h2I ct c a (119 - a) (a + 1) st else st)
def hA (B : Int → Int) (s : Int) (S a : Nat) : Int := avd (fwB B s S 0 (Cp B s 0) (a - 1))
def hZ (B : Int → Int) (s : Int) (S b : Nat) : Int := avd (fwB B s S b 0 (119 - b))
def hM (B : Int → Int) (s : Int) (S a b : Nat) : Int := avd (fwB B s S a 0 (b - 1 - a))
def hc1 (B : Int → Int) (s : Int) (S : Nat) (pr : Int) (a : Nat) : Int := hA B s S a + hZ B s S a + pr
def hc2 (B : Int → Int) (s : Int) (S : Nat) (pr : Int) (a b : Nat) : Int := hA B s S a + 2 * pr + hM B s S a b + hZ B s S b
/-- what is best of all -/
def hst (B : Int → Int) (s : Int) (S : Nat) (pr : Int) : Hst := h2O (Cuts B s) (hc2 B s S pr) 118 1 (h1R (Cuts B s) (hc1 B s S pr) 119 1 (avd (bwB B s S 119), 0, -1, -1))
def HX (M : Mm) (st : Hst) : Prop := M 90 8 = st.1 ∧ M 90 9 = st.2.1 ∧ M 90 10 = st.2.2.1 ∧ M 90 11 = st.2.2.2
def stG (st : Hst) : Prop := (0 ≤ st.1 ∧ st.1 ≤ 100000000) ∧ (0 ≤ st.2.1 ∧ st.2.1 ≤ 2) ∧ (-1 ≤ st.2.2.1 ∧ st.2.2.1 ≤ 120) ∧ (-1 ≤ st.2.2.2 ∧ st.2.2.2 ≤ 120)
section Hid
variable {kv : Mm → Prop} {kk : Int → Mm → Prop} {M M' bb : Mm} {B : Int → Int} {s : Int} {S : Nat} {st : Hst} {pr : Int}
theorem stG.of {c n a b : Int} (h : stG st) (hc : 0 ≤ c) (hn : 0 ≤ n ∧ n ≤ 2) (ha : -1 ≤ a ∧ a ≤ 120) (hb : -1 ≤ b ∧ b ≤ 120) : stG (ofH st c n a b) := by
  unfold ofH
  by_cases q : c < st.1
  · rw [if_pos q]
    have := h.1
    exact ⟨⟨hc, by show c ≤ 100000000; omega⟩, hn, ha, hb⟩
  · rw [if_neg q]; exact h
theorem stG0 {x : Int} (h1 : 0 ≤ x) (h2 : x ≤ 100000000) : stG (x, 0, -1, -1) := ⟨⟨h1, h2⟩, ⟨by show (0 : Int) ≤ 0; omega, by show (0 : Int) ≤ 2; omega⟩, ⟨by show (-1 : Int) ≤ -1; omega, by show (-1 : Int) ≤ 120; omega⟩, ⟨by show (-1 : Int) ≤ -1; omega, by show (-1 : Int) ≤ 120; omega⟩⟩
theorem of_same {c n a b : Int} (h : st.1 ≤ c) : ofH st c n a b = st := by unfold ofH; rw [if_neg (by omega)]
theorem avd_range (h : BkR bb B) (hS : Lgs B s S) {b k : Nat} {top : Int} (ht : top ≤ 1000) : 0 ≤ avd (fwB B s S b top k) ∧ avd (fwB B s S b top k) ≤ 100000000 := by
  have hb := fw_bnd h hS (b := b) ht k
  have nl := nUn_le (B := B) (S := S) (a := b) (e := b + k)
  unfold avd
  by_cases c : (fwB B s S b top k).2.1 < (fwB B s S b top k).1
  · rw [if_pos c]; omega
  · rw [if_neg c]
    have := hb.least (by omega)
    omega
theorem avd_bw (h : BkR bb B) (hS : Lgs B s S) : 0 ≤ avd (bwB B s S 119) ∧ avd (bwB B s S 119) ≤ 100000000 ∧ ((bwB B s S 119).1 ≤ (bwB B s S 119).2.1 → avd (bwB B s S 119) < 100000000) := by
  have hb := bw_bnd h hS 119 (by omega)
  have nl := nUn_le (B := B) (S := S) (a := 119 - 119) (e := 119)
  unfold avd
  by_cases c : (bwB B s S 119).2.1 < (bwB B s S 119).1
  · rw [if_pos c]; omega
  · rw [if_neg c]
    have := hb.least (by omega)
    omega
theorem hA_range (h : BkR bb B) (hS : Lgs B s S) {a : Nat} : 0 ≤ hA B s S a ∧ hA B s S a ≤ 100000000 := avd_range h hS (cap_range h).2
theorem hZ_range (h : BkR bb B) (hS : Lgs B s S) {a : Nat} : 0 ≤ hZ B s S a ∧ hZ B s S a ≤ 100000000 := avd_range h hS (by omega)
theorem hM_range (h : BkR bb B) (hS : Lgs B s S) {a b : Nat} : 0 ≤ hM B s S a b ∧ hM B s S a b ≤ 100000000 := avd_range h hS (by omega)
theorem fw_grow (h : BkR bb B) (hS : Lgs B s S) {b k : Nat} {top : Int} (ht : top ≤ 1000) (hne : (fwB B s S b top k).1 ≤ (fwB B s S b top k).2.1) : ∀ i : Nat, lst (fwB B s S b top k) ≤ avd (fwB B s S b top (k + i))
  | 0 => by
    unfold avd
    rw [Nat.add_zero, if_neg (by omega)]
    exact Int.le_refl _
  | i + 1 => by
    have ih := fw_grow h hS ht hne i
    have hb := fw_bnd h hS (b := b) ht k
    have hbi := fw_bnd h hS (b := b) ht (k + i)
    have nl := nUn_le (B := B) (S := S) (a := b) (e := b + k)
    have hl := hb.least hne
    unfold avd at ih ⊢
    rw [show k + (i + 1) = k + i + 1 by omega]
    by_cases c : (fwB B s S b top (k + i + 1)).2.1 < (fwB B s S b top (k + i + 1)).1
    · rw [if_pos c]; omega
    · rw [if_neg c]
      by_cases c2 : (fwB B s S b top (k + i)).2.1 < (fwB B s S b top (k + i)).1
      · exact absurd (fw_empty c2 1) c
      · rw [if_neg c2] at ih
        have := lst_grow (t := fwB B s S b top (k + i)) (g := co B S (b + (k + i) + 1)) (low := Lw B s (b + (k + i))) (high := Hw B s (b + (k + i))) (cp := Cp B s (b + (k + i) + 1)) (q := Cuts B s (b + (k + i) + 1)) (by omega) (fun z z1 z2 => (co_range h hS ⟨z1, z2⟩).1) (LH h _) hbi.1 (cap_range h).2 (Int.not_lt.mp c)
        have e : lst (fwB B s S b top (k + i)) ≤ lst (fwB B s S b top (k + i + 1)) := this
        omega
theorem zvd_avd (h : BkR bb B) {b : Nat} (hb : b ≤ 119) (hS : Lgs B s S) : zvd (bwB B s S (119 - b)) = hZ B s S b := by
  have f := fb_zero (L := Lw B s) (H := Hw B s) (cap := Cp B s) (ct := Cuts B s) (co := co B S) (LH h) hb (cap_range h).1
  unfold zvd hZ avd
  by_cases c : (bwB B s S (119 - b)).1 ≤ 0 ∧ 0 ≤ (bwB B s S (119 - b)).2.1
  · rw [if_pos c, if_neg (fun z => f.1.mp z c)]
    exact (f.2 c).symm
  · rw [if_neg c, if_pos (f.1.mpr c)]
/-! machine -/
def FrH (M M' : Mm) : Prop := (∀ c : Nat, c ≠ 90 → M' c = M c) ∧ ∀ i, i ≠ 8 → i ≠ 9 → i ≠ 10 → i ≠ 11 → M' 90 i = M 90 i
def FrY (M M' : Mm) : Prop := (∀ c : Nat, c ≠ 90 → c ≠ 91 → c ≠ 92 → c ≠ 93 → M' c = M c) ∧ ∀ i, i ≠ 8 → i ≠ 9 → i ≠ 10 → i ≠ 11 → M' 90 i = M 90 i
theorem FrY.refl : FrY M M := ⟨fun _ _ _ _ _ => rfl, fun _ _ _ _ _ => rfl⟩
theorem FrY.trans {M2 : Mm} (h1 : FrY M M') (h2 : FrY M' M2) : FrY M M2 := ⟨fun c a b d e => (h2.1 c a b d e).trans (h1.1 c a b d e), fun i a b d e => (h2.2 i a b d e).trans (h1.2 i a b d e)⟩
theorem FrH.toY (h : FrH M M') : FrY M M' := ⟨fun c a _ _ _ => h.1 c a, h.2⟩
theorem FrS.toY (h : FrS M M') : FrY M M' := ⟨fun c _ a b d => h c a b d, fun i _ _ _ _ => by rw [h 90 (by decide) (by decide) (by decide)]⟩
theorem FrY.ctx (f : FrY M M') (h : Ctx M B s S) : Ctx M' B s S := h.fr (fun c hc => f.1 c (by omega) (by omega) (by omega) (by omega))
theorem FrS.hx (f : FrS M M') (h : HX M st) : HX M' st := by unfold HX; rw [f 90 (by decide) (by decide) (by decide)]; exact h
theorem b_offer {c n a b : Int} (hx : HX M st) (hg : stG st) (hc : 0 ≤ c ∧ c ≤ 1000000000) (hk : ∀ M', FrH M M' → HX M' (ofH st c n a b) → kv M') : Bv (wX5_offer c n a b M) kv := by
  have h1 := hg.1
  apply Bv.of; unfold wX5_offer
  rw [hx.1]
  refine ⟨(inRof ⟨by omega, by omega⟩), (inRof ⟨by omega, by omega⟩), ?_⟩
  unfold ofH at hk
  by_cases q : c < st.1
  · rw [if_pos q]
    rw [if_pos q] at hk
    refine hk _ ⟨fun c hc => by rw [up_cell hc, up_cell hc, up_cell hc, up_cell hc], fun i a1 a2 a3 a4 => by rw [up_nei a4, up_nei a3, up_nei a2, up_nei a1]⟩ ⟨by rw [up_nei (by decide), up_nei (by decide), up_nei (by decide), up_eq], by rw [up_nei (by decide), up_nei (by decide), up_eq], by rw [up_nei (by decide), up_eq], up_eq⟩
  · rw [if_neg q]
    rw [if_neg q] at hk
    exact hk M ⟨fun _ _ => rfl, fun _ _ _ _ _ => rfl⟩ hx
def CtH (M : Mm) (B : Int → Int) (s : Int) (S : Nat) : Prop := Ctx M B s S ∧ ∀ d : Nat, 1 ≤ d → d < 120 → M 96 (d : Int) = hA B s S d ∧ M 97 (d : Int) = hZ B s S d
theorem FrY.cth (f : FrY M M') (h : CtH M B s S) : CtH M' B s S := ⟨f.ctx h.1, fun d d1 d2 => by rw [f.1 96 (by decide) (by decide) (by decide) (by decide), f.1 97 (by decide) (by decide) (by decide) (by decide)]; exact h.2 d d1 d2⟩
theorem l_t1 {Q : Mm → Prop} (hS : Lgs B s S) (hp : 0 ≤ pr ∧ pr ≤ 100000) : ∀ (k d : Nat) (M : Mm) (st : Hst), d + k = 120 → 1 ≤ d → CtH M B s S → HX M st → stG st → (∀ M', FrY M M' → HX M' (h1R (Cuts B s) (hc1 B s S pr) k d st) → stG (h1R (Cuts B s) (hc1 B s S pr) k d st) → Q M') → wX5_tryOne_2 Q pr (k + 1) (d : Int) M := by
  intro k
  induction k with
  | zero =>
    intro d M st hd h1 hc hx hg hk
    unfold wX5_tryOne_2
    refine ⟨(inRof ⟨by omega, by omega⟩), ?_⟩
    rw [if_neg (by omega)]
    exact hk M FrY.refl hx hg
  | succ k ih =>
    intro d M st hd h1 hc hx hg hk
    have e78 : M 78 (d : Int) = Cuts B s d := (hc.1.2.1.1.2 (d : Int) (by omega) (by omega)).2.2.2.2.2
    have hct := cut_range (B := B) (s := s) (d := (d : Int))
    have hct' : Cuts B s d = 0 ∨ Cuts B s d = 1 := hct
    have a1 := hA_range hc.1.1 hS (a := d)
    have a2 := hZ_range hc.1.1 hS (a := d)
    have e := hc.2 d h1 (by omega)
    have hk : ∀ M', FrY M M' → HX M' (h1R (Cuts B s) (hc1 B s S pr) k (d + 1) (if Cuts B s d = 0 then ofH st (hc1 B s S pr d) 1 (d : Int) (-1) else st)) → stG (h1R (Cuts B s) (hc1 B s S pr) k (d + 1) (if Cuts B s d = 0 then ofH st (hc1 B s S pr d) 1 (d : Int) (-1) else st)) → Q M' := hk
    unfold wX5_tryOne_2
    rw [e78, e.1, e.2]
    refine ⟨(inRof ⟨by omega, by omega⟩), ?_⟩
    rw [if_pos (by omega)]
    refine ⟨⟨by omega, by omega⟩, (inRof ⟨by omega, by omega⟩), ?_⟩
    by_cases c : Cuts B s d = 0
    · rw [if_pos c]
      rw [if_pos c] at hk
      refine b_offer hx hg (by omega) (fun M1 f1 h1' => ?_)
      have f1 := f1.toY
      exact ih (d + 1) M1 _ (by omega) (by omega) (f1.cth hc) h1' (hg.of (by omega) (by omega) (by omega) (by omega)) (fun M2 f2 => hk M2 (f1.trans f2))
    · rw [if_neg c]
      rw [if_neg c] at hk
      exact ih (d + 1) M st (by omega) (by omega) hc hx hg hk
theorem h2I_same {ct : Nat → Int} {c : Nat → Nat → Int} {a : Nat} : ∀ (k b : Nat) (st : Hst), (∀ b', b ≤ b' → b' < b + k → st.1 ≤ c a b') → h2I ct c a k b st = st
  | 0, _, _, _ => rfl
  | k + 1, b, st, h => by
    show h2I ct c a k (b + 1) (if ct b = 0 then ofH st (c a b) 2 (a : Int) (b : Int) else st) = st
    rw [of_same (h b (by omega) (by omega)), show (if ct b = 0 then st else st) = st by split <;> rfl]
    exact h2I_same k (b + 1) st (fun b' h1 h2 => h b' (by omega) (by omega))
theorem l_t52 {Q : Mm → Prop} {a : Nat} (ha : 1 ≤ a) (hS : Lgs B s S) (hp : 0 ≤ pr ∧ pr ≤ 100000) : ∀ (m k : Nat) (M : Mm) (st : Hst), a + 1 + k + m = 120 → CtH M B s S → HX M st → stG st → SL M (fwB B s S a 0 k) (nUn B S a (a + k)) → (∀ M', FrY M M' → HX M' (h2I (Cuts B s) (hc2 B s S pr) a m (a + 1 + k) st) → stG (h2I (Cuts B s) (hc2 B s S pr) a m (a + 1 + k) st) → Q M') → wX5_tryTwo_52 Q (a : Int) (hA B s S a + 2 * pr) (m + 1) ((a + 1 + k : Nat) : Int) M := by
  intro m
  induction m with
  | zero =>
    intro k M st hd hc hx hg h hk
    unfold wX5_tryTwo_52
    refine ⟨(inRof ⟨by omega, by omega⟩), ?_⟩
    rw [if_neg (by omega)]
    exact hk M FrY.refl hx hg
  | succ m ih =>
    intro k M st hd hc hx hg h hk
    have e78 : M 78 ((a + 1 + k : Nat) : Int) = Cuts B s (a + 1 + k) := (hc.1.2.1.1.2 ((a + 1 + k : Nat) : Int) (by omega) (by omega)).2.2.2.2.2
    have hct' : Cuts B s (a + 1 + k) = 0 ∨ Cuts B s (a + 1 + k) = 1 := cut_range (B := B) (s := s) (d := ((a + 1 + k : Nat) : Int))
    have a1 := hA_range hc.1.1 hS (a := a)
    have a2 := hZ_range hc.1.1 hS (a := a + 1 + k)
    have e := hc.2 (a + 1 + k) (by omega) (by omega)
    have nl := nUn_le (B := B) (S := S) (a := a) (e := a + k)
    have ne := h.ne
    have hbn := fw_bnd hc.1.1 hS (b := a) (top := 0) (by omega) k
    have hl := hbn.least ne
    have g1 := hg.1
    have em : hM B s S a (a + 1 + k) = lst (fwB B s S a 0 k) := by
      unfold hM avd
      rw [show a + 1 + k - 1 - a = k by omega, if_neg (by omega)]
    have grow : ∀ b', a + 1 + k ≤ b' → lst (fwB B s S a 0 k) ≤ hM B s S a b' := fun b' hb' => by
      have := fw_grow hc.1.1 hS (b := a) (top := 0) (by omega) ne (b' - 1 - a - k)
      rw [show k + (b' - 1 - a - k) = b' - 1 - a by omega] at this
      exact this
    unfold wX5_tryTwo_52
    refine ⟨(inRof ⟨by omega, by omega⟩), ?_⟩
    rw [if_pos (by omega)]
    refine s_botC h nl ?_
    rw [hx.1]
    refine ⟨(inRof ⟨by omega, by omega⟩), (inRof ⟨by omega, by omega⟩), ?_⟩
    by_cases c1 : hA B s S a + 2 * pr + lst (fwB B s S a 0 k) < st.1
    · rw [if_pos c1, e78, e.2]
      refine ⟨⟨by omega, by omega⟩, (inRof ⟨by omega, by omega⟩), ?_⟩
      have hk : ∀ M', FrY M M' → HX M' (h2I (Cuts B s) (hc2 B s S pr) a m (a + 1 + k + 1) (if Cuts B s (a + 1 + k) = 0 then ofH st (hc2 B s S pr a (a + 1 + k)) 2 (a : Int) ((a + 1 + k : Nat) : Int) else st)) → stG (h2I (Cuts B s) (hc2 B s S pr) a m (a + 1 + k + 1) (if Cuts B s (a + 1 + k) = 0 then ofH st (hc2 B s S pr a (a + 1 + k)) 2 (a : Int) ((a + 1 + k : Nat) : Int) else st)) → Q M' := hk
      have cont : ∀ (M1 : Mm) (st1 : Hst), FrY M M1 → HX M1 st1 → stG st1 → SL M1 (fwB B s S a 0 k) (nUn B S a (a + k)) → (∀ M', FrY M M' → HX M' (h2I (Cuts B s) (hc2 B s S pr) a m (a + 1 + k + 1) st1) → stG (h2I (Cuts B s) (hc2 B s S pr) a m (a + 1 + k + 1) st1) → Q M') → Bd (wX5_stepAhead ((a + 1 + k : Nat) : Int) M1) (fun r19 M20 => inR r19 ∧ (if r19 = 0 then Q M20 else Bv (wX5_addLogs ((a + 1 + k : Nat) : Int) M20) (fun M26 => wX5_tryTwo_52 Q (a : Int) (hA B s S a + 2 * pr) (m + 1) (((a + 1 + k : Nat) : Int) + 1) M26))) := by
        intro M1 st1 f1 hx1 hg1 h1 hk1
        have hc1' := f1.cth hc
        by_cases last : a + k < 119
        · have key := i_ahead (A := Q) (kv := fun M26 => wX5_tryTwo_52 Q (a : Int) (hA B s S a + 2 * pr) (m + 1) (((a + 1 + k : Nat) : Int) + 1) M26) (b := a) (k := k) (top := 0) last hS hc1'.1 (by omega) h1 (fun he M2 f2 => ?_) (fun M2 f2 h2 => ?_)
          · rw [show ((a + k : Nat) : Int) + 1 = ((a + 1 + k : Nat) : Int) by omega] at key
            exact key
          · have e2 : h2I (Cuts B s) (hc2 B s S pr) a m (a + 1 + k + 1) st1 = st1 := h2I_same _ _ _ (fun b' q1 q2 => by
              have z := fw_empty he (b' - 1 - a - (k + 1))
              rw [show k + 1 + (b' - 1 - a - (k + 1)) = b' - 1 - a by omega] at z
              have z2 : hM B s S a b' = 100000000 := by unfold hM avd; rw [if_pos z]
              have z3 := hZ_range hc.1.1 hS (a := b')
              have z4 := hg1.1
              unfold hc2
              omega)
            refine hk1 M2 (f1.trans f2.toY) ?_ ?_
            · rw [e2]; exact f2.hx hx1
            · rw [e2]; exact hg1
          · have f2y := f2.toY
            have := ih (k + 1) M2 st1 (by omega) (f2y.cth hc1') (f2.hx hx1) hg1 h2 (fun M3 f3 x3 g3 => hk1 M3 ((f1.trans f2y).trans f3) x3 g3)
            rw [show ((a + 1 + (k + 1) : Nat) : Int) = ((a + 1 + k : Nat) : Int) + 1 by omega] at this
            exact this
        · omega
      by_cases c2 : Cuts B s (a + 1 + k) = 0
      · rw [if_pos c2]
        rw [if_pos c2] at hk
        have ec : hA B s S a + 2 * pr + lst (fwB B s S a 0 k) + hZ B s S (a + 1 + k) = hc2 B s S pr a (a + 1 + k) := by unfold hc2; rw [em]
        rw [ec]
        refine b_offer hx hg (by rw [← ec]; omega) (fun M1 f1 hx1 => ?_)
        refine cont M1 _ f1.toY hx1 (hg.of (by rw [← ec]; omega) (by omega) (by omega) (by omega)) (h.frame (f1.1 91 (by decide)) (f1.1 92 (by decide)) (f1.1 93 (by decide))) hk
      · rw [if_neg c2]
        rw [if_neg c2] at hk
        exact cont M st FrY.refl hx hg h hk
    · rw [if_neg c1]
      have e2 : h2I (Cuts B s) (hc2 B s S pr) a (m + 1) (a + 1 + k) st = st := h2I_same _ _ _ (fun b' q1 q2 => by
        have z1 := grow b' q1
        have z3 := hZ_range hc.1.1 hS (a := b')
        unfold hc2
        omega)
      rw [e2] at hk
      exact hk M FrY.refl hx hg
theorem b_tryTwo {a : Nat} (ha : 1 ≤ a ∧ a < 119) (hS : Lgs B s S) (hp : 0 ≤ pr ∧ pr ≤ 100000) (hc : CtH M B s S) (hx : HX M st) (hg : stG st) (hk : ∀ M', FrY M M' → HX M' (if Cuts B s a = 0 then h2I (Cuts B s) (hc2 B s S pr) a (119 - a) (a + 1) st else st) → stG (if Cuts B s a = 0 then h2I (Cuts B s) (hc2 B s S pr) a (119 - a) (a + 1) st else st) → kv M') : Bv (wX5_tryTwo (a : Int) pr M) kv := by
  have e78 : M 78 (a : Int) = Cuts B s a := (hc.1.2.1.1.2 (a : Int) (by omega) (by omega)).2.2.2.2.2
  have hct' : Cuts B s a = 0 ∨ Cuts B s a = 1 := cut_range (B := B) (s := s) (d := (a : Int))
  have a1 := hA_range hc.1.1 hS (a := a)
  have e := hc.2 a ha.1 (by omega)
  have g1 := hg.1
  apply Bv.of; unfold wX5_tryTwo
  rw [e78, e.1, hx.1]
  refine ⟨⟨by omega, by omega⟩, (inRof ⟨by omega, by omega⟩), ?_⟩
  by_cases c : Cuts B s a = 0
  · rw [if_pos c]
    rw [if_pos c] at hk
    refine ⟨(inRof ⟨by omega, by omega⟩), (inRof ⟨by omega, by omega⟩), ?_⟩
    by_cases c1 : hA B s S a + 2 * pr < st.1
    · rw [if_pos c1]
      refine b_start (b := a) (top := 0) (by omega) hS hc.1 (by omega) (fun M1 f1 h1 => ⟨119 - a + 1, ?_⟩)
      have f1y := f1.toY
      have := l_t52 (Q := kv) ha.1 hS hp (119 - a) 0 M1 st (by omega) (f1y.cth hc) (f1.hx hx) hg h1 (fun M2 f2 => hk M2 (f1y.trans f2))
      exact this
    · rw [if_neg c1]
      have e2 : h2I (Cuts B s) (hc2 B s S pr) a (119 - a) (a + 1) st = st := h2I_same _ _ _ (fun b' q1 q2 => by
        have z2 := hM_range hc.1.1 hS (a := a) (b := b')
        have z3 := hZ_range hc.1.1 hS (a := b')
        unfold hc2
        omega)
      rw [e2] at hk
      exact hk M FrY.refl hx hg
  · rw [if_neg c]
    rw [if_neg c] at hk
    exact hk M FrY.refl hx hg
theorem l_h39 {Q : Int → Mm → Prop} (hS : Lgs B s S) (hp : 0 ≤ pr ∧ pr ≤ 100000) : ∀ (k a : Nat) (M : Mm) (st : Hst), a + k = 119 → 1 ≤ a → CtH M B s S → HX M st → stG st → (∀ M', FrY M M' → HX M' (h2O (Cuts B s) (hc2 B s S pr) k a st) → stG (h2O (Cuts B s) (hc2 B s S pr) k a st) → wX5_leastWithHidden_57 Q M') → wX5_leastWithHidden_39 Q pr (k + 1) (a : Int) M := by
  intro k
  induction k with
  | zero =>
    intro a M st ha h1 hc hx hg hk
    unfold wX5_leastWithHidden_39
    refine ⟨(inRof ⟨by omega, by omega⟩), ?_⟩
    rw [if_neg (by omega)]
    exact hk M FrY.refl hx hg
  | succ k ih =>
    intro a M st ha h1 hc hx hg hk
    unfold wX5_leastWithHidden_39
    refine ⟨(inRof ⟨by omega, by omega⟩), ?_⟩
    rw [if_pos (by omega)]
    refine b_tryTwo (by omega) hS hp hc hx hg (fun M1 f1 hx1 hg1 => ?_)
    exact ih (a + 1) M1 _ (by omega) (by omega) (f1.cth hc) hx1 hg1 (fun M2 f2 => hk M2 (f1.trans f2))
/-- the class's answer -/
theorem b_lwh (h : BkR M B) (hnt : Nt M B s) (hS : Lgs B s S) (hSn : S < 16777216) (hp : 0 ≤ pr ∧ pr ≤ 100000) (h1 : (hst B s S pr).1 < 100000000 → stG (hst B s S pr) → ∀ M', (∀ c : Nat, c ≠ 90 → c ≠ 91 → c ≠ 92 → c ≠ 93 → c ≠ 94 → c ≠ 95 → c ≠ 96 → c ≠ 97 → c ≠ 99 → M' c = M c) → M' 90 7 = M 90 7 → M' 90 12 = (hst B s S pr).2.1 → M' 99 0 = (hst B s S pr).2.2.1 → M' 99 1 = (hst B s S pr).2.2.2 → kk (hst B s S pr).1 M') (h0 : ¬ (hst B s S pr).1 < 100000000 → ∀ M', (∀ c : Nat, c ≠ 90 → c ≠ 91 → c ≠ 92 → c ≠ 93 → c ≠ 94 → c ≠ 95 → c ≠ 96 → c ≠ 97 → M' c = M c) → M' 90 7 = M 90 7 → M' 90 12 = M 90 12 → kk (-1) M') : Bd (wX5_leastWithHidden (S : Int) pr M) kk := by
  apply Bd.of; unfold wX5_leastWithHidden
  refine b_sort h hnt hS hSn (fun M1 f1 hc1 => ?_)
  refine b_sb hS hc1 (fun M2 f2 hsb => ?_)
  have ab := avd_bw (B := B) (s := s) (S := S) h hS
  have f3 : ∀ c : Nat, c ≠ 90 → up (up (up (up M2 90 8 (avd (bwB B s S 119))) 90 9 0) 90 10 (-1)) 90 11 (-1) c = M2 c := fun c hc => by rw [up_cell hc, up_cell hc, up_cell hc, up_cell hc]
  have s3 : ∀ i, i ≠ 8 → i ≠ 9 → i ≠ 10 → i ≠ 11 → up (up (up (up M2 90 8 (avd (bwB B s S 119))) 90 9 0) 90 10 (-1)) 90 11 (-1) 90 i = M2 90 i := fun i a1 a2 a3 a4 => by rw [up_nei a4, up_nei a3, up_nei a2, up_nei a1]
  have x3 : HX (up (up (up (up M2 90 8 (avd (bwB B s S 119))) 90 9 0) 90 10 (-1)) 90 11 (-1)) (avd (bwB B s S 119), 0, -1, -1) := ⟨by rw [up_nei (by decide), up_nei (by decide), up_nei (by decide), up_eq], by rw [up_nei (by decide), up_nei (by decide), up_eq], by rw [up_nei (by decide), up_eq], up_eq⟩
  generalize up (up (up (up M2 90 8 (avd (bwB B s S 119))) 90 9 0) 90 10 (-1)) 90 11 (-1) = M3 at *
  have hc2' := f2.ctx hc1
  have hc3 : Ctx M3 B s S := hc2'.fr (fun c hc => f3 c (by omega))
  refine b_sa hS hc3 (fun M4 f4 hsa => ?_)
  have hc4 : CtH M4 B s S := by
    refine ⟨f4.ctx hc3, fun d d1 d2 => ⟨?_, ?_⟩⟩
    · have := hsa (d - 1) (by omega)
      rw [show d - 1 + 1 = d by omega] at this
      exact this
    · rw [f4 97 (by decide) (by decide) (by decide) (by decide), f3 97 (by decide), hsb.1 d d2]
      exact zvd_avd h (by omega) hS
  have x4 : HX M4 (avd (bwB B s S 119), 0, -1, -1) := by
    unfold HX
    rw [f4 90 (by decide) (by decide) (by decide) (by decide)]
    exact x3
  have g4 : stG (avd (bwB B s S 119), 0, -1, -1) := stG0 ab.1 ab.2.1
  apply Bv.of; unfold wX5_tryOne
  refine ⟨120, l_t1 hS hp 119 1 M4 _ (by omega) (by omega) hc4 x4 g4 (fun M5 f5 x5 g5 => ⟨119, ?_⟩)⟩
  refine l_h39 hS hp 118 1 M5 _ (by omega) (by omega) (f5.cth hc4) x5 g5 (fun M6 f6 x6 g6 => ?_)
  have x6 : HX M6 (hst B s S pr) := x6
  have g6 : stG (hst B s S pr) := g6
  have g61 := g6.1
  have hf : ∀ c : Nat, c ≠ 90 → c ≠ 91 → c ≠ 92 → c ≠ 93 → c ≠ 94 → c ≠ 95 → c ≠ 96 → c ≠ 97 → M6 c = M c := fun c a0 a1 a2 a3 a4 a5 a6 a7 => by rw [f6.1 c a0 a1 a2 a3, f5.1 c a0 a1 a2 a3, f4 c a1 a2 a3 a6, f3 c a0, f2 c a1 a2 a3 a5 a7, f1 c a4]
  have hs : ∀ i, i ≠ 8 → i ≠ 9 → i ≠ 10 → i ≠ 11 → M6 90 i = M 90 i := fun i a1 a2 a3 a4 => by rw [f6.2 i a1 a2 a3 a4, f5.2 i a1 a2 a3 a4, f4 90 (by decide) (by decide) (by decide) (by decide), s3 i a1 a2 a3 a4, f2 90 (by decide) (by decide) (by decide) (by decide) (by decide), f1 90 (by decide)]
  unfold wX5_leastWithHidden_57
  rw [x6.1, x6.2.1, x6.2.2.1, x6.2.2.2]
  refine ⟨(inRof ⟨by omega, by omega⟩), ?_⟩
  by_cases q : (hst B s S pr).1 < 100000000
  · rw [if_pos q]
    refine h1 q g6 _ (fun c a0 a1 a2 a3 a4 a5 a6 a7 a9 => by rw [up_cell a9, up_cell a9, up_cell a0, hf c a0 a1 a2 a3 a4 a5 a6 a7]) (by rw [up_ne (by decide), up_ne (by decide), up_nei (by decide), hs 7 (by decide) (by decide) (by decide) (by decide)]) (by rw [up_ne (by decide), up_ne (by decide), up_eq]) (by rw [up_nei (by decide), up_eq]) up_eq
  · rw [if_neg q]
    exact h0 q M6 hf (hs 7 (by decide) (by decide) (by decide) (by decide)) (hs 12 (by decide) (by decide) (by decide) (by decide))
end Hid
