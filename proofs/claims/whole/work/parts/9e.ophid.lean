/-! ===== the model's hidden cleanings; hidden: the op ===== -/
def HM (M : Mm) (st : Hst) : Prop := (st.1 = 100000000 ∧ M 102 45 = -1) ∨ (st.1 < 100000000 ∧ M 102 45 = st.2.1 ∧ M 102 42 = st.1 ∧ (1 ≤ st.2.1 → M 102 43 = st.2.2.1) ∧ (2 ≤ st.2.1 → M 102 44 = st.2.2.2))
def FrJ (M M' : Mm) : Prop := (∀ c : Nat, c ≠ 102 → M' c = M c) ∧ ∀ i, i ≠ 42 → i ≠ 43 → i ≠ 44 → i ≠ 45 → M' 102 i = M 102 i
theorem avmv {T : Dp} (hb : Bnd T 2400000) : (mvd T < 1000000000 ∧ avd T = mvd T ∧ 0 ≤ mvd T ∧ mvd T ≤ 2400000) ∨ (mvd T = 1000000000 ∧ avd T = 100000000) := by
  unfold mvd avd
  by_cases e : T.2.1 < T.1
  · rw [if_pos e, if_pos e]; exact Or.inr ⟨rfl, rfl⟩
  · rw [if_neg e, if_neg e]
    have := hb.least (by omega)
    exact Or.inl ⟨by omega, rfl, this.1, this.2⟩
theorem a2_fin {x y : Int} (hx : x < 1000000000) (hy : y < 1000000000) : a2 x y = x + y := by unfold a2; rw [if_pos hx, if_pos hy]
theorem a2_far1 {y : Int} : a2 1000000000 y = 1000000000 := by unfold a2; rw [if_neg (by decide)]
theorem avd_same {T1 T2 : Dp} (h : (T1.2.1 < T1.1 ↔ T2.2.1 < T2.1) ∧ (T2.1 ≤ T2.2.1 → lst T1 = lst T2)) : avd T1 = avd T2 := by
  unfold avd
  by_cases e : T2.2.1 < T2.1
  · rw [if_pos e, if_pos (h.1.mpr e)]
  · rw [if_neg e, if_neg (fun z => e (h.1.mp z)), h.2 (by omega)]
theorem h2O_snoc {ct : Nat → Int} {c : Nat → Nat → Int} : ∀ (n a : Nat) (st : Hst), h2O ct c (n + 1) a st = if ct (a + n) = 0 then h2I ct c (a + n) (119 - (a + n)) (a + n + 1) (h2O ct c n a st) else h2O ct c n a st
  | 0, a, st => rfl
  | n + 1, a, st => by
    have ih := h2O_snoc (ct := ct) (c := c) n (a + 1) (if ct a = 0 then h2I ct c a (119 - a) (a + 1) st else st)
    rw [show a + 1 + n = a + (n + 1) by omega] at ih
    exact ih
theorem h2O_all {ct : Nat → Int} {c : Nat → Nat → Int} {st : Hst} : h2O ct c 119 1 st = h2O ct c 118 1 st := by
  rw [h2O_snoc 118 1 st]
  generalize h2O ct c 118 1 st = x
  by_cases z : ct (1 + 118) = 0
  · rw [if_pos z]; rfl
  · rw [if_neg z]
section Hm
variable {kv : Mm → Prop} {kk : Int → Mm → Prop} {M M' bb : Mm} {B : Int → Int} {s : Int} {S : Nat} {st : Hst} {pr : Int}
theorem FrJ.refl : FrJ M M := ⟨fun _ _ => rfl, fun _ _ _ _ _ => rfl⟩
theorem FrJ.trans {M2 : Mm} (h1 : FrJ M M') (h2 : FrJ M' M2) : FrJ M M2 := ⟨fun c a => (h2.1 c a).trans (h1.1 c a), fun i a b d e => (h2.2 i a b d e).trans (h1.2 i a b d e)⟩
theorem b_offers {cm c n a b a' b' : Int} (hm : HM M st) (hg : stG st) (hn : 0 ≤ n ∧ n ≤ 2) (ha : 1 ≤ n → a = a') (hb : 2 ≤ n → b = b') (hc : (cm < 1000000000 ∧ c = cm ∧ 0 ≤ c ∧ c < 100000000) ∨ (cm = 1000000000 ∧ 100000000 ≤ c)) (hk : ∀ M', FrJ M M' → HM M' (ofH st c n a' b') → kv M') : Bv (wX12_offers cm n a b M) kv := by
  have g1 := hg.1
  have g2 := hg.2.1
  apply Bv.of; unfold wX12_offers
  have take : c < st.1 → c = cm → c < 100000000 → wX12_offers_24 kv cm n a b M := by
    intro q e1 e2
    unfold wX12_offers_24
    refine hk _ ⟨fun c hc => by rw [up_cell hc, up_cell hc, up_cell hc, up_cell hc], fun i a1 a2 a3 a4 => by rw [up_nei a3, up_nei a2, up_nei a4, up_nei a1]⟩ ?_
    unfold ofH
    rw [if_pos q]
    refine Or.inr ⟨e2, ?_, ?_, fun z => ?_, fun z => ?_⟩
    · rw [up_nei (by decide), up_nei (by decide), up_eq]
    · rw [up_nei (by decide), up_nei (by decide), up_nei (by decide), up_eq]; exact e1.symm
    · rw [up_nei (by decide), up_eq]; exact ha z
    · rw [up_eq]; exact hb z
  rcases hc with ⟨c1, c2, c3, c4⟩ | ⟨c1, c2⟩
  · refine ⟨(inRof ⟨by omega, by omega⟩), ?_⟩
    rw [if_pos c1]
    rcases hm with ⟨m1, m2⟩ | ⟨m1, m2, m3, m4, m5⟩
    · rw [m2]
      refine ⟨(inRl (by decide)), ?_⟩
      rw [if_pos rfl]
      exact take (by omega) c2 c4
    · rw [m2, m3]
      refine ⟨(inRof ⟨by omega, by omega⟩), ?_⟩
      rw [if_neg (by omega)]
      refine ⟨(inRof ⟨by omega, by omega⟩), ?_⟩
      by_cases q : cm < st.1
      · rw [if_pos q]; exact take (by omega) c2 c4
      · rw [if_neg q]
        refine hk M FrJ.refl ?_
        rw [of_same (by omega)]
        exact Or.inr ⟨m1, m2, m3, m4, m5⟩
  · subst c1
    refine ⟨(inRl (by decide)), ?_⟩
    rw [if_neg (by decide)]
    refine hk M FrJ.refl ?_
    rw [of_same (by omega)]
    exact hm
/-- all the model's least costs -/
def LBa (M : Mm) (B : Int → Int) (s : Int) (S e0 : Nat) : Prop := ∀ a : Nat, a < e0 → LBr M B s S a 120
theorem FrJ.lba {e0 : Nat} (f : FrJ M M') (h : LBa M B s S e0) : LBa M' B s S e0 := fun a ha d d1 d2 => by rw [f.1 121 (by decide)]; exact h a ha d d1 d2
theorem lb_A (h : LBa M B s S 120) {a : Nat} (ha : 1 ≤ a ∧ a < 120) : M 121 ((a : Int) - 1) = mvd (fwB B s S 0 (Cp B s 0) (a - 1)) := by
  have := h 0 (by omega) (a - 1) (by omega) (by omega)
  rw [show 120 * ((0 : Nat) : Int) + ((a - 1 : Nat) : Int) = (a : Int) - 1 by omega, Nat.sub_zero] at this
  exact this
theorem lb_Z (h : LBa M B s S 120) {a : Nat} (ha : 1 ≤ a ∧ a < 120) : M 121 (120 * (a : Int) + 120 - 1) = mvd (fwB B s S a 0 (119 - a)) := by
  have := h a (by omega) 119 (by omega) (by omega)
  rw [show 120 * (a : Int) + ((119 : Nat) : Int) = 120 * (a : Int) + 120 - 1 by omega] at this
  unfold tpB at this
  rw [if_neg (by omega)] at this
  exact this
theorem lb_M (h : LBa M B s S 120) {a b : Nat} (ha : 1 ≤ a ∧ a < b ∧ b < 120) : M 121 (120 * (a : Int) + (b : Int) - 1) = mvd (fwB B s S a 0 (b - 1 - a)) := by
  have := h a (by omega) (b - 1) (by omega) (by omega)
  rw [show 120 * (a : Int) + ((b - 1 : Nat) : Int) = 120 * (a : Int) + (b : Int) - 1 by omega] at this
  unfold tpB at this
  rw [if_neg (by omega)] at this
  exact this
theorem l_n186 {Q : Int → Mm → Prop} {k159 : Int → Mm → Prop} {a : Nat} (hs : inR s) (h : BkR bb B) (hS : Lgs B s S) (hp : 0 ≤ pr ∧ pr ≤ 100000) (ha : 1 ≤ a ∧ a < 120) : ∀ (k b : Nat) (M : Mm) (st : Hst), b + k = 120 → a < b → M 103 = B → LBa M B s S 120 → HM M st → stG st → (∀ M', FrJ M M' → HM M' (h2I (Cuts B s) (hc2 B s S pr) a k b st) → stG (h2I (Cuts B s) (hc2 B s S pr) a k b st) → k159 ((a : Int) + 1) M') → wX12_hidden_186 Q k159 s pr (a : Int) (k + 1) (b : Int) M := by
  intro k
  induction k with
  | zero =>
    intro b M st hb hab hB hl hm hg hk
    unfold wX12_hidden_186
    refine ⟨(inRof ⟨by omega, by omega⟩), ?_⟩
    rw [if_neg (by omega)]
    exact hk M FrJ.refl hm hg
  | succ k ih =>
    intro b M st hb hab hB hl hm hg hk
    have lr := left_range (s := s) (d := (b : Int)) h
    have ec : Cuts B s b = if left B s (b : Int) = -1 then 0 else 1 := cut_left
    have hk : ∀ M', FrJ M M' → HM M' (h2I (Cuts B s) (hc2 B s S pr) a k (b + 1) (if Cuts B s b = 0 then ofH st (hc2 B s S pr a b) 2 (a : Int) (b : Int) else st)) → stG (h2I (Cuts B s) (hc2 B s S pr) a k (b + 1) (if Cuts B s b = 0 then ofH st (hc2 B s S pr a b) 2 (a : Int) (b : Int) else st)) → k159 ((a : Int) + 1) M' := hk
    unfold wX12_hidden_186
    refine ⟨(inRof ⟨by omega, by omega⟩), ?_⟩
    rw [if_pos (by omega)]
    refine b_left (by rw [hB]; exact h) hs (inRof ⟨by omega, by omega⟩) ?_
    rw [hB]
    refine ⟨(inRof ⟨by omega, by omega⟩), ?_⟩
    by_cases c : left B s (b : Int) = -1
    · rw [if_pos c]
      rw [if_pos c] at ec
      rw [if_pos ec] at hk
      have eZ' := lb_Z hl (a := b) (by omega)
      rw [lb_A hl ha, lb_M hl ⟨ha.1, hab, by omega⟩]
      have kA := avmv (fw_K (s := s) h hS (e := 0) (k := a - 1) (cap_range (s := s) (d := ((0 : Nat) : Int)) h).2)
      have kM := avmv (fw_K (s := s) h hS (e := a) (k := b - 1 - a) (top := 0) (by omega))
      have kZ := avmv (fw_K (s := s) h hS (e := b) (k := 119 - b) (top := 0) (by omega))
      have eA : hA B s S a = avd (fwB B s S 0 (Cp B s 0) (a - 1)) := rfl
      have eM : hM B s S a b = avd (fwB B s S a 0 (b - 1 - a)) := rfl
      have eZ : hZ B s S b = avd (fwB B s S b 0 (119 - b)) := rfl
      have e2 : hc2 B s S pr a b = hA B s S a + 2 * pr + hM B s S a b + hZ B s S b := rfl
      rw [← eM] at kM
      rw [← eZ] at kZ
      have kA : (mvd (fwB B s S 0 (Cp B s 0) (a - 1)) < 1000000000 ∧ hA B s S a = mvd (fwB B s S 0 (Cp B s 0) (a - 1)) ∧ 0 ≤ mvd (fwB B s S 0 (Cp B s 0) (a - 1)) ∧ mvd (fwB B s S 0 (Cp B s 0) (a - 1)) ≤ 2400000) ∨ (mvd (fwB B s S 0 (Cp B s 0) (a - 1)) = 1000000000 ∧ hA B s S a = 100000000) := kA
      generalize mvd (fwB B s S 0 (Cp B s 0) (a - 1)) = xA at *
      generalize mvd (fwB B s S a 0 (b - 1 - a)) = xM at *
      generalize mvd (fwB B s S b 0 (119 - b)) = xZ at *
      generalize hA B s S a = yA at *
      generalize hM B s S a b = yM at *
      generalize hZ B s S b = yZ at *
      have hcost : (a2 (a2 xA xM) (a2 xZ (2 * pr)) < 1000000000 ∧ hc2 B s S pr a b = a2 (a2 xA xM) (a2 xZ (2 * pr)) ∧ 0 ≤ hc2 B s S pr a b ∧ hc2 B s S pr a b < 100000000) ∨ (a2 (a2 xA xM) (a2 xZ (2 * pr)) = 1000000000 ∧ 100000000 ≤ hc2 B s S pr a b) := by
        rw [e2]
        rcases kA with ⟨a1, a2', a3, a4⟩ | ⟨a1, a2'⟩
        · rcases kM with ⟨m1, m2, m3, m4⟩ | ⟨m1, m2⟩
          · rcases kZ with ⟨z1, z2, z3, z4⟩ | ⟨z1, z2⟩
            · rw [a2_fin a1 m1, a2_fin z1 (by omega), a2_fin (by omega) (by omega)]
              exact Or.inl (by omega)
            · rw [z1, a2_far1, a2_far]; exact Or.inr (by omega)
          · rw [m1, a2_far, a2_far1]
            refine Or.inr ⟨rfl, ?_⟩
            rcases kZ with kZ | kZ <;> omega
        · rw [a1, a2_far1, a2_far1]
          refine Or.inr ⟨rfl, ?_⟩
          rcases kM with kM | kM <;> rcases kZ with kZ | kZ <;> omega
      have rA : inR xA := by rcases kA with kA | kA <;> exact (inRof ⟨by omega, by omega⟩)
      have rM : inR xM := by rcases kM with kM | kM <;> exact (inRof ⟨by omega, by omega⟩)
      have rZ : inR xZ := by rcases kZ with kZ | kZ <;> exact (inRof ⟨by omega, by omega⟩)
      have r1 : inR (a2 xA xM) := by
        rcases kA with ⟨a1, a2', a3, a4⟩ | ⟨a1, a2'⟩
        · rcases kM with ⟨m1, m2, m3, m4⟩ | ⟨m1, m2⟩
          · rw [a2_fin a1 m1]; exact (inRof ⟨by omega, by omega⟩)
          · rw [m1, a2_far]; exact (inRl (by decide))
        · rw [a1, a2_far1]; exact (inRl (by decide))
      have r2 : inR (a2 xZ (2 * pr)) := by
        rcases kZ with ⟨z1, z2, z3, z4⟩ | ⟨z1, z2⟩
        · rw [a2_fin z1 (by omega)]; exact (inRof ⟨by omega, by omega⟩)
        · rw [z1, a2_far1]; exact (inRl (by decide))
      have c0 : 0 ≤ hc2 B s S pr a b := by rcases hcost with q | q <;> omega
      refine ⟨⟨by omega, by omega⟩, ⟨by omega, by omega⟩, b_adds2 rA rM ⟨⟨by omega, by omega⟩, ?_⟩⟩
      rw [eZ']
      refine b_adds2 rZ (inRof ⟨by omega, by omega⟩) (b_adds2 r1 r2 (b_offers hm hg (by omega) (fun _ => rfl) (fun _ => rfl) hcost (fun M1 f1 m1 => ?_)))
      exact ih (b + 1) M1 _ (by omega) (by omega) (by rw [f1.1 103 (by decide)]; exact hB) (f1.lba hl) m1 (hg.of c0 (by omega) (by omega) (by omega)) (fun M2 f2 => hk M2 (f1.trans f2))
    · rw [if_neg c]
      rw [if_neg c] at ec
      rw [if_neg (by rw [ec]; decide)] at hk
      exact ih (b + 1) M st (by omega) (by omega) hB hl hm hg hk
theorem l_n159 {Q : Int → Mm → Prop} (hs : inR s) (h : BkR bb B) (hS : Lgs B s S) (hp : 0 ≤ pr ∧ pr ≤ 100000) : ∀ (k a : Nat) (M : Mm) (st : Hst), a + k = 120 → 1 ≤ a → M 103 = B → LBa M B s S 120 → HM M st → stG st → (∀ M', FrJ M M' → HM M' (h2O (Cuts B s) (hc2 B s S pr) k a st) → stG (h2O (Cuts B s) (hc2 B s S pr) k a st) → wX12_hidden_276 Q M') → wX12_hidden_159 Q s pr (k + 1) (a : Int) M := by
  intro k
  induction k with
  | zero =>
    intro a M st ha ha1 hB hl hm hg hk
    unfold wX12_hidden_159
    refine ⟨(inRof ⟨by omega, by omega⟩), ?_⟩
    rw [if_neg (by omega)]
    exact hk M FrJ.refl hm hg
  | succ k ih =>
    intro a M st ha ha1 hB hl hm hg hk
    have lr := left_range (s := s) (d := (a : Int)) h
    have ec : Cuts B s a = if left B s (a : Int) = -1 then 0 else 1 := cut_left
    have hk : ∀ M', FrJ M M' → HM M' (h2O (Cuts B s) (hc2 B s S pr) k (a + 1) (if Cuts B s a = 0 then h2I (Cuts B s) (hc2 B s S pr) a (119 - a) (a + 1) st else st)) → stG (h2O (Cuts B s) (hc2 B s S pr) k (a + 1) (if Cuts B s a = 0 then h2I (Cuts B s) (hc2 B s S pr) a (119 - a) (a + 1) st else st)) → wX12_hidden_276 Q M' := hk
    unfold wX12_hidden_159
    refine ⟨(inRof ⟨by omega, by omega⟩), ?_⟩
    rw [if_pos (by omega)]
    refine b_left (by rw [hB]; exact h) hs (inRof ⟨by omega, by omega⟩) ?_
    rw [hB]
    refine ⟨(inRof ⟨by omega, by omega⟩), ?_⟩
    by_cases c : left B s (a : Int) = -1
    · rw [if_pos c]
      rw [if_pos c] at ec
      rw [if_pos ec] at hk
      rw [show (a : Int) + 1 = ((a + 1 : Nat) : Int) by omega]
      refine ⟨119 - a + 1, l_n186 hs h hS hp (by omega) (119 - a) (a + 1) M st (by omega) (by omega) hB hl hm hg (fun M1 f1 m1 g1 => ?_)⟩
      exact ih (a + 1) M1 _ (by omega) (by omega) (by rw [f1.1 103 (by decide)]; exact hB) (f1.lba hl) m1 g1 (fun M2 f2 => hk M2 (f1.trans f2))
    · rw [if_neg c]
      rw [if_neg c] at ec
      rw [if_neg (by rw [ec]; decide)] at hk
      exact ih (a + 1) M st (by omega) (by omega) hB hl hm hg hk
theorem l_n93 {Q : Int → Mm → Prop} (hs : inR s) (h : BkR bb B) (hS : Lgs B s S) (hp : 0 ≤ pr ∧ pr ≤ 100000) : ∀ (k a : Nat) (M : Mm) (st : Hst), a + k = 120 → 1 ≤ a → M 103 = B → LBa M B s S 120 → HM M st → stG st → (∀ M', FrJ M M' → HM M' (h1R (Cuts B s) (hc1 B s S pr) k a st) → stG (h1R (Cuts B s) (hc1 B s S pr) k a st) → ∃ m, wX12_hidden_159 Q s pr m 1 M') → wX12_hidden_93 Q s pr (k + 1) (a : Int) M := by
  intro k
  induction k with
  | zero =>
    intro a M st ha ha1 hB hl hm hg hk
    unfold wX12_hidden_93
    refine ⟨(inRof ⟨by omega, by omega⟩), ?_⟩
    rw [if_neg (by omega)]
    exact hk M FrJ.refl hm hg
  | succ k ih =>
    intro a M st ha ha1 hB hl hm hg hk
    have lr := left_range (s := s) (d := (a : Int)) h
    have ec : Cuts B s a = if left B s (a : Int) = -1 then 0 else 1 := cut_left
    have hk : ∀ M', FrJ M M' → HM M' (h1R (Cuts B s) (hc1 B s S pr) k (a + 1) (if Cuts B s a = 0 then ofH st (hc1 B s S pr a) 1 (a : Int) (-1) else st)) → stG (h1R (Cuts B s) (hc1 B s S pr) k (a + 1) (if Cuts B s a = 0 then ofH st (hc1 B s S pr a) 1 (a : Int) (-1) else st)) → ∃ m, wX12_hidden_159 Q s pr m 1 M' := hk
    unfold wX12_hidden_93
    refine ⟨(inRof ⟨by omega, by omega⟩), ?_⟩
    rw [if_pos (by omega)]
    refine b_left (by rw [hB]; exact h) hs (inRof ⟨by omega, by omega⟩) ?_
    rw [hB]
    refine ⟨(inRof ⟨by omega, by omega⟩), ?_⟩
    by_cases c : left B s (a : Int) = -1
    · rw [if_pos c]
      rw [if_pos c] at ec
      rw [if_pos ec] at hk
      rw [lb_A hl (a := a) (by omega), lb_Z hl (a := a) (by omega)]
      have kA := avmv (fw_K (s := s) h hS (e := 0) (k := a - 1) (cap_range (s := s) (d := ((0 : Nat) : Int)) h).2)
      have kZ := avmv (fw_K (s := s) h hS (e := a) (k := 119 - a) (top := 0) (by omega))
      have eZ : hZ B s S a = avd (fwB B s S a 0 (119 - a)) := rfl
      have e2 : hc1 B s S pr a = hA B s S a + hZ B s S a + pr := rfl
      rw [← eZ] at kZ
      have kA : (mvd (fwB B s S 0 (Cp B s 0) (a - 1)) < 1000000000 ∧ hA B s S a = mvd (fwB B s S 0 (Cp B s 0) (a - 1)) ∧ 0 ≤ mvd (fwB B s S 0 (Cp B s 0) (a - 1)) ∧ mvd (fwB B s S 0 (Cp B s 0) (a - 1)) ≤ 2400000) ∨ (mvd (fwB B s S 0 (Cp B s 0) (a - 1)) = 1000000000 ∧ hA B s S a = 100000000) := kA
      generalize mvd (fwB B s S 0 (Cp B s 0) (a - 1)) = xA at *
      generalize mvd (fwB B s S a 0 (119 - a)) = xZ at *
      generalize hA B s S a = yA at *
      generalize hZ B s S a = yZ at *
      have hcost : (a2 (a2 xA xZ) pr < 1000000000 ∧ hc1 B s S pr a = a2 (a2 xA xZ) pr ∧ 0 ≤ hc1 B s S pr a ∧ hc1 B s S pr a < 100000000) ∨ (a2 (a2 xA xZ) pr = 1000000000 ∧ 100000000 ≤ hc1 B s S pr a) := by
        rw [e2]
        rcases kA with ⟨a1, a2', a3, a4⟩ | ⟨a1, a2'⟩
        · rcases kZ with ⟨z1, z2, z3, z4⟩ | ⟨z1, z2⟩
          · rw [a2_fin a1 z1, a2_fin (by omega) (by omega)]
            exact Or.inl (by omega)
          · rw [z1, a2_far, a2_far1]; exact Or.inr (by omega)
        · rw [a1, a2_far1, a2_far1]
          refine Or.inr ⟨rfl, ?_⟩
          rcases kZ with kZ | kZ <;> omega
      have rA : inR xA := by rcases kA with kA | kA <;> exact (inRof ⟨by omega, by omega⟩)
      have rZ : inR xZ := by rcases kZ with kZ | kZ <;> exact (inRof ⟨by omega, by omega⟩)
      have r1 : inR (a2 xA xZ) := by
        rcases kA with ⟨a1, a2', a3, a4⟩ | ⟨a1, a2'⟩
        · rcases kZ with ⟨m1, m2, m3, m4⟩ | ⟨m1, m2⟩
          · rw [a2_fin a1 m1]; exact (inRof ⟨by omega, by omega⟩)
          · rw [m1, a2_far]; exact (inRl (by decide))
        · rw [a1, a2_far1]; exact (inRl (by decide))
      have c0 : 0 ≤ hc1 B s S pr a := by rcases hcost with q | q <;> omega
      refine ⟨⟨by omega, by omega⟩, ⟨by omega, by omega⟩, b_adds2 rA rZ (b_adds2 r1 (inRof ⟨by omega, by omega⟩) (b_offers (b' := -1) hm hg (by omega) (fun _ => rfl) (fun z => by omega) hcost (fun M1 f1 m1 => ?_)))⟩
      exact ih (a + 1) M1 _ (by omega) (by omega) (by rw [f1.1 103 (by decide)]; exact hB) (f1.lba hl) m1 (hg.of c0 (by omega) (by omega) (by omega)) (fun M2 f2 => hk M2 (f1.trans f2))
    · rw [if_neg c]
      rw [if_neg c] at ec
      rw [if_neg (by rw [ec]; decide)] at hk
      exact ih (a + 1) M st (by omega) (by omega) hB hl hm hg hk
theorem l_n41 {Q : Int → Mm → Prop} (hs : inR s) (h : BkR bb B) (hS : Lgs B s S) : ∀ (k a : Nat) (M : Mm), a + k = 120 → M 103 = B → CM M B s S → LBa M B s S a → (∀ M', FrR M M' → LBa M' B s S 120 → wX12_hidden_71 Q s pr M') → wX12_hidden_41 Q s pr (k + 1) (a : Int) M := by
  intro k
  induction k with
  | zero =>
    intro a M ha hB hc hl hk
    unfold wX12_hidden_41
    refine ⟨(inRof ⟨by omega, by omega⟩), ?_⟩
    rw [if_neg (by omega)]
    refine hk M FrR.refl ?_
    rw [show (120 : Nat) = a by omega]
    exact hl
  | succ k ih =>
    intro a M ha hB hc hl hk
    unfold wX12_hidden_41
    refine ⟨(inRof ⟨by omega, by omega⟩), ?_⟩
    rw [if_pos (by omega)]
    have go : ∀ M', FrR M M' → LBr M' B s S a 120 → (∀ x : Int, x < 120 * (a : Int) ∨ 120 * (a : Int) + 119 < x → M' 121 x = M 121 x) → wX12_hidden_41 Q s pr (k + 1) ((a : Int) + 1) M' := by
      intro M1 f1 l1 x1
      refine ih (a + 1) M1 (by omega) (by rw [f1 103 (by decide) (by decide) (by decide) (by decide)]; exact hB) (f1.cm hc) (fun e he d d1 d2 => ?_) (fun M2 f2 => hk M2 (f1.trans f2))
      by_cases q : e = a
      · rw [q]; exact l1 d (by omega) d2
      · rw [x1 _ (by omega)]; exact hl e (by omega) d d1 d2
    by_cases c : (a : Int) ≤ 0
    · rw [if_pos c]
      exact b_runs (by omega) (Or.inl ⟨by omega, rfl⟩) hs hB h hS hc go
    · rw [if_neg c]
      exact b_runs (by omega) (Or.inr ⟨by omega, rfl⟩) hs hB h hS hc go
def FrB3 (M M' : Mm) : Prop := (∀ c : Nat, c ≠ 102 → c ≠ 117 → c ≠ 119 → c ≠ 120 → c ≠ 121 → c ≠ 123 → c ≠ 124 → M' c = M c) ∧ ∀ i, i ≠ 41 → i ≠ 42 → i ≠ 43 → i ≠ 44 → i ≠ 45 → M' 102 i = M 102 i
theorem m_hidden {kn : Int} (hB : M 103 = B) (h : BkR bb B) (ha : inR s) (hb : inR kn) (hp : inR pr) (h1 : (0 ≤ s ∧ s < B 721) → (0 ≤ kn ∧ kn ≤ 119) → (0 ≤ pr ∧ pr ≤ 100000) → (hst B s (cnt B s kn) pr).1 < 100000000 → stG (hst B s (cnt B s kn) pr) → ∀ M', FrB3 M M' → M' 102 41 = (hst B s (cnt B s kn) pr).2.1 → (1 ≤ (hst B s (cnt B s kn) pr).2.1 → M' 124 0 = (hst B s (cnt B s kn) pr).2.2.1) → (2 ≤ (hst B s (cnt B s kn) pr).2.1 → M' 124 1 = (hst B s (cnt B s kn) pr).2.2.2) → kk (hst B s (cnt B s kn) pr).1 M') (h2 : (0 ≤ s ∧ s < B 721) → (0 ≤ kn ∧ kn ≤ 119) → (0 ≤ pr ∧ pr ≤ 100000) → ¬ (hst B s (cnt B s kn) pr).1 < 100000000 → ∀ M', FrB3 M M' → M' 102 41 = M 102 41 → M' 124 = M 124 → kk (-1) M') (h0 : ¬ ((0 ≤ s ∧ s < B 721) ∧ (0 ≤ kn ∧ kn ≤ 119) ∧ (0 ≤ pr ∧ pr ≤ 100000)) → kk (-1) M) : Bd (wX12_hidden s kn pr M) kk := by
  have n0 := h.1.1
  apply Bd.of; unfold wX12_hidden
  refine i_mShip ha (by rw [hB]; omega) (fun c1 => ?_) (fun q => h0 (fun z => q (by rw [hB]; exact z.1)))
  refine i_mDay hb (fun c2 => ?_) (fun q => h0 (fun z => q z.2.1))
  refine i_in hp inR0 (inRl (by decide)) (fun c3 => ?_) (fun q => h0 (fun z => q z.2.2))
  rw [hB] at c1
  have hS := cnt_lgs (s := s) h.1 kn
  refine b_cnt (by rw [hB]; exact h) ha hb ?_
  rw [hB]
  refine b_lays ha hB h hS (cnt_lt h.1) (fun M1 f1 hcm => ⟨121, ?_⟩)
  have hB1 : M1 103 = B := by rw [f1 103 (by decide)]; exact hB
  refine l_n41 (B := B) (s := s) (S := cnt B s kn) ha h hS 120 0 M1 (by omega) hB1 hcm (fun a ha => by omega) (fun M2 f2 hl => ?_)
  have hB2 : M2 103 = B := by rw [f2 103 (by decide) (by decide) (by decide) (by decide)]; exact hB1
  have ab := avd_bw (B := B) (s := s) (S := cnt B s kn) h hS
  have e119 : M2 121 119 = mvd (fwB B s (cnt B s kn) 0 (Cp B s 0) 119) := by
    have := hl 0 (by omega) 119 (by omega) (by omega)
    rw [show 120 * ((0 : Nat) : Int) + ((119 : Nat) : Int) = 119 by decide, Nat.sub_zero] at this
    exact this
  have kF := avmv (fw_K (s := s) h hS (e := 0) (k := 119) (cap_range (s := s) (d := ((0 : Nat) : Int)) h).2)
  have eF : avd (fwB B s (cnt B s kn) 0 (Cp B s 0) 119) = avd (bwB B s (cnt B s kn) 119) := avd_same (fb_free (LH h))
  have kF : (mvd (fwB B s (cnt B s kn) 0 (Cp B s 0) 119) < 1000000000 ∧ avd (fwB B s (cnt B s kn) 0 (Cp B s 0) 119) = mvd (fwB B s (cnt B s kn) 0 (Cp B s 0) 119) ∧ 0 ≤ mvd (fwB B s (cnt B s kn) 0 (Cp B s 0) 119) ∧ mvd (fwB B s (cnt B s kn) 0 (Cp B s 0) 119) ≤ 2400000) ∨ (mvd (fwB B s (cnt B s kn) 0 (Cp B s 0) 119) = 1000000000 ∧ avd (fwB B s (cnt B s kn) 0 (Cp B s 0) 119) = 100000000) := kF
  rw [eF] at kF
  have hH : hst B s (cnt B s kn) pr = h2O (Cuts B s) (hc2 B s (cnt B s kn) pr) 119 1 (h1R (Cuts B s) (hc1 B s (cnt B s kn) pr) 119 1 (avd (bwB B s (cnt B s kn) 119), 0, -1, -1)) := by
    rw [h2O_all]
    rfl
  generalize avd (bwB B s (cnt B s kn) 119) = av at *
  generalize mvd (fwB B s (cnt B s kn) 0 (Cp B s 0) 119) = mv at *
  unfold wX12_hidden_71
  rw [e119]
  have g0 : stG (100000000, 0, -1, -1) := stG0 (by omega) (by omega)
  have m0 : HM (up M2 102 45 (-1)) (100000000, 0, -1, -1) := Or.inl ⟨rfl, up_eq⟩
  refine b_offers (c := av) (a' := -1) (b' := -1) m0 g0 (by omega) (fun z => by omega) (fun z => by omega) (by rcases kF with q | q <;> omega) (fun M3 f3 m3 => ?_)
  have es : ofH (100000000, 0, -1, -1) av 0 (-1) (-1) = (av, 0, -1, -1) := by
    unfold ofH
    by_cases q : av < 100000000
    · rw [if_pos q]
    · rw [if_neg q, show av = 100000000 by omega]
  rw [es] at m3
  have fr3 : (∀ c : Nat, c ≠ 102 → c ≠ 117 → c ≠ 119 → c ≠ 120 → c ≠ 121 → c ≠ 123 → M3 c = M c) ∧ ∀ i, i ≠ 42 → i ≠ 43 → i ≠ 44 → i ≠ 45 → M3 102 i = M 102 i := by
    refine ⟨fun c a0 a1 a2 a3 a4 a5 => by rw [f3.1 c a0, up_cell a0, f2 c a2 a3 a4 a5, f1 c a1], fun i a1 a2 a3 a4 => by rw [f3.2 i a1 a2 a3 a4, up_nei a4, f2 102 (by decide) (by decide) (by decide) (by decide), f1 102 (by decide)]⟩
  have hl3 : LBa M3 B s (cnt B s kn) 120 := f3.lba (fun a ha d d1 d2 => by rw [up_ne (by decide)]; exact hl a ha d d1 d2)
  have hB3 : M3 103 = B := by rw [fr3.1 103 (by decide) (by decide) (by decide) (by decide) (by decide) (by decide)]; exact hB
  refine ⟨120, l_n93 ha h hS c3 119 1 M3 _ (by omega) (by omega) hB3 hl3 m3 (stG0 ab.1 ab.2.1) (fun M4 f4 m4 g4 => ⟨120, ?_⟩)⟩
  have hB4 : M4 103 = B := by rw [f4.1 103 (by decide)]; exact hB3
  refine l_n159 ha h hS c3 119 1 M4 _ (by omega) (by omega) hB4 (f4.lba hl3) m4 g4 (fun M5 f5 m5 g5 => ?_)
  rw [← hH] at m5 g5
  generalize hst B s (cnt B s kn) pr = st at *
  have fr5 : (∀ c : Nat, c ≠ 102 → c ≠ 117 → c ≠ 119 → c ≠ 120 → c ≠ 121 → c ≠ 123 → M5 c = M c) ∧ ∀ i, i ≠ 42 → i ≠ 43 → i ≠ 44 → i ≠ 45 → M5 102 i = M 102 i := by
    refine ⟨fun c a0 a1 a2 a3 a4 a5 => by rw [f5.1 c a0, f4.1 c a0, fr3.1 c a0 a1 a2 a3 a4 a5], fun i a1 a2 a3 a4 => by rw [f5.2 i a1 a2 a3 a4, f4.2 i a1 a2 a3 a4, fr3.2 i a1 a2 a3 a4]⟩
  have g51 := g5.1
  have g52 := g5.2.1
  unfold wX12_hidden_276
  rcases m5 with ⟨x1, x2⟩ | ⟨x1, x2, x3, x4, x5⟩
  · rw [x2]
    refine ⟨(inRl (by decide)), ?_⟩
    rw [if_pos rfl]
    exact h2 c1 c2 c3 (by omega) M5 ⟨fun c a0 a1 a2 a3 a4 a5 _ => fr5.1 c a0 a1 a2 a3 a4 a5, fun i _ a1 a2 a3 a4 => fr5.2 i a1 a2 a3 a4⟩ (fr5.2 41 (by decide) (by decide) (by decide) (by decide)) (fr5.1 124 (by decide) (by decide) (by decide) (by decide) (by decide) (by decide))
  · rw [x2, x3]
    refine ⟨(inRof ⟨by omega, by omega⟩), ?_⟩
    rw [if_neg (by omega)]
    refine h1 c1 c2 c3 x1 g5 _ ⟨fun c a0 a1 a2 a3 a4 a5 a6 => by rw [up_cell a6, up_cell a6, up_cell a0, fr5.1 c a0 a1 a2 a3 a4 a5], fun i a0 a1 a2 a3 a4 => by rw [up_ne (by decide), up_ne (by decide), up_nei a0, fr5.2 i a1 a2 a3 a4]⟩ (by rw [up_ne (by decide), up_ne (by decide), up_eq]) (fun z => by rw [up_nei (by decide), up_eq]; exact x4 z) (fun z => by rw [up_eq]; exact x5 z)
end Hm
section OpH
variable {M : Mm} {k : Mm → Prop} {a b c : Int}
theorem op_hidden (ha : inR a) (hb : inR b) (hc : inR c) (hI : Inv M) (hk : ∀ M, Inv M → k M) : Bd (wX11_hidden a b c M) (fun r1 M1 => Bd (wX12_hidden a b c M1) (fun r2 M2 => inR r1 ∧ inR r2 ∧ r1 = r2 ∧ k M2)) := by
  have hB := hI.1
  have n0 := hB.1.1
  have fin : ¬ ((0 ≤ a ∧ a < M 103 721) ∧ (0 ≤ b ∧ b ≤ 119) ∧ (0 ≤ c ∧ c ≤ 100000)) → Bd (wX12_hidden a b c M) (fun r2 M2 => inR (-1) ∧ inR r2 ∧ -1 = r2 ∧ k M2) := fun q => m_hidden rfl hB ha hb hc (fun q1 q2 q3 => absurd ⟨q1, q2, q3⟩ q) (fun q1 q2 q3 => absurd ⟨q1, q2, q3⟩ q) (fun _ => ⟨(inRl (by decide)), (inRl (by decide)), rfl, hk _ hI⟩)
  apply Bd.of; unfold wX11_hidden
  refine i_isShip ha (by omega) (fun c1 => ?_) (fun q => fin (fun z => by omega))
  refine i_isDay hb (fun c2 => ?_) (fun q => fin (fun z => by omega))
  refine i_within hc inR0 (inRl (by decide)) (fun c3 => ?_) (fun q => fin (fun z => by omega))
  refine b_load hB (by omega) (fun M1 k1 k2 k3 k4 => ?_)
  have hS := cnt_lgs (s := a) hB.1 b
  refine b_cx k3 k4 hb ?_
  refine b_lwh k3 k4 hS (cnt_lt hB.1) c3 (fun lt g M2 f2 e7 e12 e0 e1 => ?_) (fun nl M2 f2 e7 e12 => ?_)
  · have hf : ∀ c : Nat, c < 72 ∨ 99 < c → M2 c = M c := fun c hc => by rw [f2 c (by omega) (by omega) (by omega) (by omega) (by omega) (by omega) (by omega) (by omega) (by omega), k1 c (by omega)]
    have hf2 : ∀ c : Nat, c ∈ [86, 87, 88, 89, 98] → M2 c = M c := fun c hc => by
      have : ∀ c ∈ [86, 87, 88, 89, 98], (c < 72 ∨ 80 < c) ∧ c ≠ 90 ∧ c ≠ 91 ∧ c ≠ 92 ∧ c ≠ 93 ∧ c ≠ 94 ∧ c ≠ 95 ∧ c ≠ 96 ∧ c ≠ 97 ∧ c ≠ 99 := by decide
      obtain ⟨x0, x1, x2, x3, x4, x5, x6, x7, x8, x9⟩ := this c hc
      rw [f2 c x1 x2 x3 x4 x5 x6 x7 x8 x9, k1 c x0]
    refine m_hidden (hf 103 (by omega)) hB ha hb hc (fun _ _ _ _ _ M3 f3 e41 e124 e125 => ?_) (fun _ _ _ q => absurd lt q) (fun z => absurd ⟨by omega, c2, c3⟩ z)
    generalize hst (M 103) a (cnt (M 103) a b) c = st at *
    have g1 := g.1
    have g2 := g.2.1
    have g3 := g.2.2.1
    have g4 := g.2.2.2
    refine ⟨(inRof ⟨by omega, by omega⟩), (inRof ⟨by omega, by omega⟩), rfl, hk _ ?_⟩
    have hcc : ∀ c : Nat, c < 72 ∨ 99 < c → c ≠ 102 → c ≠ 117 → c ≠ 119 → c ≠ 120 → c ≠ 121 → c ≠ 123 → c ≠ 124 → M3 c = M c := fun c q a0 a1 a2 a3 a4 a5 a6 => by rw [f3.1 c a0 a1 a2 a3 a4 a5 a6, hf c q]
    have hcd : ∀ c : Nat, c ∈ [0, 71, 100, 101, 103, 104, 105, 111, 114, 122, 125] → M3 c = M c := fun c hc' => by
      have : ∀ c ∈ [0, 71, 100, 101, 103, 104, 105, 111, 114, 122, 125], (c < 72 ∨ 99 < c) ∧ c ≠ 102 ∧ c ≠ 117 ∧ c ≠ 119 ∧ c ≠ 120 ∧ c ≠ 121 ∧ c ≠ 123 ∧ c ≠ 124 := by decide
      obtain ⟨x0, x1, x2, x3, x4, x5, x6, x7⟩ := this c hc'
      exact hcc c x0 x1 x2 x3 x4 x5 x6 x7
    have hcd2 : ∀ c : Nat, c ∈ [86, 87, 88, 89, 98] → M3 c = M c := fun c hc' => by
      have : ∀ c ∈ [86, 87, 88, 89, 98], c ≠ 102 ∧ c ≠ 117 ∧ c ≠ 119 ∧ c ≠ 120 ∧ c ≠ 121 ∧ c ≠ 123 ∧ c ≠ 124 := by decide
      obtain ⟨x1, x2, x3, x4, x5, x6, x7⟩ := this c hc'
      rw [f3.1 c x1 x2 x3 x4 x5 x6 x7, hf2 c hc']
    have h90 : M3 90 = M2 90 := f3.1 90 (by decide) (by decide) (by decide) (by decide) (by decide) (by decide) (by decide)
    have h99 : M3 99 = M2 99 := f3.1 99 (by decide) (by decide) (by decide) (by decide) (by decide) (by decide) (by decide)
    have h102 : ∀ i, i ∈ ([0, 14, 17, 25, 29, 38, 47] : List Int) → M3 102 i = M 102 i := fun i hi => by
      have : ∀ i ∈ ([0, 14, 17, 25, 29, 38, 47] : List Int), i ≠ 41 ∧ i ≠ 42 ∧ i ≠ 43 ∧ i ≠ 44 ∧ i ≠ 45 := by decide
      obtain ⟨x1, x2, x3, x4, x5⟩ := this i hi
      rw [f3.2 i x1 x2 x3 x4 x5, hf 102 (by omega)]
    obtain ⟨-, -, -, -, i5, i6, i7, i8, i9, i10, i11⟩ := id hI
    refine hI.rest (fun c g0 g1 => hcc c (by omega) (by omega) (by omega) (by omega) (by omega) (by omega) (by omega) (by omega)) (hcd 103 (by decide)) (hcd 104 (by decide)) (hcd 105 (by decide)) ?_ ?_ ?_ ?_ ?_ ?_ ?_
    · rw [hcd 0 (by decide), h102 0 (by decide)]; exact i5
    · rw [hcd 0 (by decide), h102 14 (by decide)]; exact i6
    · rw [hcd2 86 (by decide), hcd2 87 (by decide), h102 17 (by decide), hcd 111 (by decide)]; exact i7
    · rw [hcd2 88 (by decide), hcd2 89 (by decide), h102 25 (by decide), h102 29 (by decide), hcd 114 (by decide)]; exact i8
    · rw [h90, e7, k1 90 (by omega), hcd2 98 (by decide), h102 38 (by decide), hcd 122 (by decide)]; exact i9
    · rw [h90, h99, e12, e41]
      refine ⟨g2, Or.inr rfl, fun i q0 q1 => ?_⟩
      by_cases z : i = 0
      · rw [z, e0, e124 (by omega)]; exact ⟨rfl, (inRof ⟨by omega, by omega⟩)⟩
      · have z1 : i = 1 := by omega
        rw [z1, e1, e125 (by omega)]; exact ⟨rfl, (inRof ⟨by omega, by omega⟩)⟩
    · rw [hcd 100 (by decide), hcd 101 (by decide), h102 47 (by decide), hcd 125 (by decide)]; exact i11
  · have hI2 : Inv M2 := by
      refine hI.fr2 (fun c i x1 x2 x3 x4 x5 => ?_)
      by_cases q90 : c = 90
      · subst q90
        rcases x5 rfl with e | e
        · rw [e, e7, k1 90 (by omega)]
        · rw [e, e12, k1 90 (by omega)]
      · rw [f2 c q90 (by rintro rfl; revert x1; decide) (by rintro rfl; revert x1; decide) (by rintro rfl; revert x1; decide) (by rintro rfl; revert x1; decide) (by rintro rfl; revert x1; decide) (by rintro rfl; revert x1; decide) (by rintro rfl; revert x1; decide)]
        by_cases q : c < 72 ∨ 80 < c
        · rw [k1 c q]
        · have : ∀ c : Nat, c < 81 → 72 ≤ c → scr.contains c = true := by decide
          rw [this c (by omega) (by omega)] at x1
          exact absurd x1 (by decide)
    have e103 : M2 103 = M 103 := by rw [f2 103 (by decide) (by decide) (by decide) (by decide) (by decide) (by decide) (by decide) (by decide), k1 103 (by omega)]
    refine m_hidden e103 hB ha hb hc (fun _ _ _ q => absurd q nl) (fun _ _ _ _ M3 f3 e41 e124 => ⟨(inRl (by decide)), (inRl (by decide)), rfl, hk _ ?_⟩) (fun z => absurd ⟨by omega, c2, c3⟩ z)
    refine hI2.fr2 (fun c i x1 x2 x3 x4 x5 => ?_)
    by_cases q : c = 102
    · subst q
      by_cases q2 : i = 41
      · rw [q2, e41]
      · have := x2 rfl
        rw [f3.2 i q2 (by omega) (by omega) (by omega) (by omega)]
    · by_cases q2 : c = 124
      · rw [q2, e124]
      · rw [f3.1 c q (by rintro rfl; revert x1; decide) (by rintro rfl; revert x1; decide) (by rintro rfl; revert x1; decide) (by rintro rfl; revert x1; decide) (by rintro rfl; revert x1; decide) q2]
end OpH
