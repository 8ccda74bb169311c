/-! ===== the class's slope: split, spread, cut, bottom ===== -/
def WW (lo hi : Int) (m : Nat) (P T : Nat → Int) : Prop := (∀ i, i < m → 1 ≤ T i ∧ lo ≤ P i ∧ P i ≤ hi) ∧ ∀ i j, i < j → j < m → P i ≤ P j
section Xt
variable {kv : Mm → Prop} {kk : Int → Mm → Prop} {P T φ : Nat → Int} {m k N : Nat} {lo hi v l x t w a b c cp low high : Int}
theorem WS.ww (h : WS lo hi m P T) : WW lo hi m P T := ⟨fun i hi' => by have := h.1 i hi'; omega, h.2⟩
theorem WW_ins (h : WW lo hi m P T) (hx : lo ≤ x ∧ x ≤ hi) (ht : 1 ≤ t) (hk : k ≤ m) (h1 : ∀ i, i < k → P i ≤ x) (h2 : ∀ i, k ≤ i → i < m → x ≤ P i) : WW lo hi (m + 1) (insF P k x) (insF T k t) := by
  refine ⟨fun i hi' => ?_, fun i j hij hj => ?_⟩
  · unfold insF
    by_cases c1 : i < k
    · rw [if_pos c1, if_pos c1]; exact h.1 i (by omega)
    · rw [if_neg c1, if_neg c1]
      by_cases c2 : i = k
      · rw [if_pos c2, if_pos c2]; exact ⟨ht, hx.1, hx.2⟩
      · rw [if_neg c2, if_neg c2]; exact h.1 (i - 1) (by omega)
  · unfold insF
    by_cases c1 : i < k
    · rw [if_pos c1]
      by_cases d1 : j < k
      · rw [if_pos d1]; exact h.2 i j hij (by omega)
      · rw [if_neg d1]
        by_cases d2 : j = k
        · rw [if_pos d2]; exact h1 i c1
        · rw [if_neg d2]; exact h.2 i (j - 1) (by omega) (by omega)
    · rw [if_neg c1, if_neg (show ¬ j < k by omega), if_neg (show ¬ j = k by omega)]
      by_cases c2 : i = k
      · rw [if_pos c2]; exact h2 (j - 1) (by omega) (by omega)
      · rw [if_neg c2]; exact h.2 (i - 1) (j - 1) (by omega) (by omega)
theorem sm_upd {i : Nat} : ∀ m : Nat, sm (fun k => if k = i then φ k - c else φ k) m = if i < m then sm φ m - c else sm φ m
  | 0 => rfl
  | m + 1 => by
    have ih := sm_upd (i := i) m
    show sm (fun k => if k = i then φ k - c else φ k) m + (if m = i then φ m - c else φ m) = if i < m + 1 then sm φ m + φ m - c else sm φ m + φ m
    rw [ih]
    by_cases c1 : i < m
    · rw [if_pos c1, if_neg (by omega), if_pos (by omega)]; omega
    · rw [if_neg c1]
      by_cases c2 : m = i
      · rw [if_pos c2, if_pos (by omega)]; omega
      · rw [if_neg c2, if_neg (by omega)]
theorem ev_upd {i : Nat} {z : Int} (hi' : i < m) : ev lo v l P (fun k => if k = i then T k - c else T k) m z = ev lo v l P T m z - c * max 0 (z - P i) := by
  unfold ev
  have e : (fun k => (fun k => if k = i then T k - c else T k) k * max 0 (z - P k)) = (fun k => if k = i then (fun k => T k * max 0 (z - P k)) k - c * max 0 (z - P i) else (fun k => T k * max 0 (z - P k)) k) := by
    funext k
    show (if k = i then T k - c else T k) * max 0 (z - P k) = if k = i then T k * max 0 (z - P k) - c * max 0 (z - P i) else T k * max 0 (z - P k)
    by_cases q : k = i
    · rw [if_pos q, if_pos q, Int.sub_mul, q]
    · rw [if_neg q, if_neg q]
  rw [e, sm_upd m, if_pos hi']
  omega
/-- balanced, or a turn to spare -/
def Bal (l : Int) (T : Nat → Int) (m N : Nat) : Prop := ((∃ j, j ≤ m ∧ l + sm T j = 0) ∧ m ≤ N) ∨ m + 1 ≤ N
/-- what a split leaves -/
def Spl (M M' : Mm) (lo hi v l : Int) (m N : Nat) (P T : Nat → Int) (j : Nat) : Prop := ∃ l' m' P' T', FrS M M' ∧ SR M' lo hi v l' m' P' T' ∧ j ≤ m' ∧ l' + sm T' j = 0 ∧ m' ≤ N ∧ WW lo hi m' P' T' ∧ (min l 0 ≤ l' ∧ l' + sm T' m' ≤ max (l + sm T m) 0) ∧ ∀ z, lo ≤ z → z ≤ hi → ev lo v l' P' T' m' z = ev lo v l P T m z
theorem l_split {M : Mm} {Q : Int → Mm → Prop} (h : SR M lo hi v l m P T) (hl : -2400 ≤ l ∧ l + sm T m ≤ 2400) (hlh : lo ≤ hi) (w : WS lo hi m P T) (hN : N ≤ 90) (hb : Bal l T m N) (hk : ∀ (j : Nat) M', Spl M M' lo hi v l m N P T j → Q (j : Int) M') : ∀ (n i : Nat), i + n = m → l + sm T i ≤ 0 → wX9_splitAtBottom_32 Q (n + 1) (l + sm T i) (i : Int) M := by
  have hT : ∀ i, i < m → 0 ≤ T i := fun i hi' => by have := w.1 i hi'; omega
  have hmN : m ≤ N := by rcases hb with hb | hb <;> omega
  have mono := fun i j => sm_mono (φ := T) (m := m) (i := i) hT j
  obtain ⟨⟨s0, s1, s2, s3, s4⟩, hp⟩ := id h
  intro n
  induction n with
  | zero =>
    intro i hi' hneg
    have e : i = m := by omega
    subst e
    unfold wX9_splitAtBottom_32
    rw [s4]
    refine ⟨(inRof ⟨by omega, by omega⟩), (inRof ⟨by omega, by omega⟩), ?_⟩
    rw [if_neg (by omega)]
    unfold wX9_splitAtBottom_93
    have m0 := mono 0 i (by omega) (by omega)
    have e0 : sm T 0 = 0 := rfl
    refine ⟨(inRof ⟨by omega, by omega⟩), ?_⟩
    by_cases c1 : l + sm T i < 0
    · rw [if_pos c1, s4, s1]
      have hnb : i + 1 ≤ N := by
        rcases hb with ⟨⟨j, j1, j2⟩, -⟩ | hb
        · have := mono j i j1 (by omega); omega
        · exact hb
      refine b_insAt h (by omega) (Nat.le_refl _) (fun M' f1 h1 => ?_)
      rw [h1.1.2.2.2.2]
      refine hk (i + 1) M' ⟨l, i + 1, _, _, f1, h1, Nat.le_refl _, ?_, hnb, WW_ins w.ww ⟨hlh, Int.le_refl _⟩ (by omega) (Nat.le_refl _) (fun k hk' => by have := w.1 k hk'; omega) (fun k k1 k2 => by omega), ?_, fun z z1 z2 => ?_⟩
      · rw [sm_ins i (Nat.le_refl _)]; omega
      · rw [sm_ins i (Nat.le_refl _)]; omega
      · rw [ev_ins (Nat.le_refl _), show max 0 (z - hi) = 0 by omega]; omega
    · rw [if_neg c1, s4]
      exact hk i M ⟨l, i, P, T, FrS.refl, h, Nat.le_refl _, by omega, hmN, w.ww, by omega, fun z _ _ => rfl⟩
  | succ n ih =>
    intro i hi' hneg
    unfold wX9_splitAtBottom_32
    have m0 := mono 0 i (by omega) (by omega)
    have m1 := mono (i + 1) m (by omega) (by omega)
    have e0 : sm T 0 = 0 := rfl
    have e1 : sm T (i + 1) = sm T i + T i := rfl
    have hpi := hp i (by omega)
    have hwi := w.1 i (by omega)
    rw [s4, hpi.2]
    refine ⟨(inRof ⟨by omega, by omega⟩), (inRof ⟨by omega, by omega⟩), ?_⟩
    rw [if_pos (by omega)]
    refine ⟨(inRof ⟨by omega, by omega⟩), ?_⟩
    by_cases c1 : l + sm T i = 0
    · rw [if_pos c1]
      exact hk i M ⟨l, m, P, T, FrS.refl, h, by omega, c1, hmN, w.ww, by omega, fun z _ _ => rfl⟩
    rw [if_neg c1]
    refine ⟨⟨by omega, by omega⟩, (inRof ⟨by omega, by omega⟩), ?_⟩
    by_cases c2 : l + sm T i + T i ≤ 0
    · rw [if_pos c2]
      have := ih (i + 1) (by omega) (by omega)
      rw [e1, show l + (sm T i + T i) = l + sm T i + T i by omega] at this
      exact this
    · rw [if_neg c2]
      unfold wX9_splitAtBottom_59
      rw [hpi.1, hpi.2]
      refine ⟨⟨by omega, by omega⟩, ?_⟩
      have hnb : m + 1 ≤ N := by
        rcases hb with ⟨⟨j, j1, j2⟩, -⟩ | hb
        · by_cases q : j ≤ i
          · have := mono j i q (by omega); omega
          · have := mono (i + 1) j (by omega) j1; omega
        · exact hb
      generalize hc : l + sm T i + T i = c at *
      have h1 : SR (up M 93 (i : Int) (T i - c)) lo hi v l m P (fun k => if k = i then T k - c else T k) := by
        refine ⟨⟨by rw [up_ne (by decide)]; exact s0, by rw [up_ne (by decide)]; exact s1, by rw [up_ne (by decide)]; exact s2, by rw [up_ne (by decide)]; exact s3, by rw [up_ne (by decide)]; exact s4⟩, fun k hk' => ⟨by rw [up_ne (by decide)]; exact (hp k hk').1, ?_⟩⟩
        show _ = if k = i then T k - c else T k
        by_cases q : k = i
        · rw [if_pos q, q, up_eq]
        · rw [if_neg q, up_nei (by omega)]; exact (hp k hk').2
      have w1 : WW lo hi m P (fun k => if k = i then T k - c else T k) := by
        refine ⟨fun k hk' => ⟨?_, (w.ww.1 k hk').2⟩, w.2⟩
        show 1 ≤ if k = i then T k - c else T k
        have := (w.1 k hk').1
        by_cases q : k = i
        · rw [if_pos q, q]; omega
        · rw [if_neg q]; exact this
      have su := sm_upd (φ := T) (c := c) (i := i) m
      rw [if_pos (by omega)] at su
      have sui := sm_upd (φ := T) (c := c) (i := i) (i + 1)
      rw [if_pos (by omega)] at sui
      rw [show (i : Int) + 1 = ((i + 1 : Nat) : Int) by omega]
      refine b_insAt h1 (by omega) (show i + 1 ≤ m by omega) (fun M' f1 h2 => hk (i + 1) M' ⟨l, m + 1, _, _, FrS.u3.trans f1, h2, by omega, ?_, hnb, WW_ins w1 ⟨by omega, by omega⟩ (by omega) (by omega) (fun k hk' => ?_) (fun k k1 k2 => w.2 i k (by omega) k2), ?_, fun z z1 z2 => ?_⟩)
      · rw [sm_ins_lo (i + 1) (Nat.le_refl _), sui]; omega
      · by_cases q : k = i
        · rw [q]; exact Int.le_refl _
        · exact w.2 k i (by omega) (by omega)
      · rw [sm_ins m (by omega), su]; omega
      · rw [ev_ins (by omega), ev_upd (by omega)]; omega
theorem b_split {M : Mm} (h : SR M lo hi v l m P T) (hr : -1000 ≤ lo ∧ hi ≤ 5000) (hl : -2400 ≤ l ∧ l + sm T m ≤ 2400) (hlh : lo ≤ hi) (w : WS lo hi m P T) (hN : N ≤ 90) (hb : Bal l T m N) (hk : ∀ (j : Nat) M', Spl M M' lo hi v l m N P T j → kk (j : Int) M') : Bd (wX9_splitAtBottom M) kk := by
  have hT : ∀ i, i < m → 0 ≤ T i := fun i hi' => by have := w.1 i hi'; omega
  have hmN : m ≤ N := by rcases hb with hb | hb <;> omega
  have mono := fun i j => sm_mono (φ := T) (m := m) (i := i) hT j
  have m0 := mono 0 m (by omega) (by omega)
  have e0 : sm T 0 = 0 := rfl
  obtain ⟨⟨s0, s1, s2, s3, s4⟩, hp⟩ := id h
  apply Bd.of; unfold wX9_splitAtBottom
  rw [s3]
  refine ⟨(inRof ⟨by omega, by omega⟩), ?_⟩
  by_cases c1 : l ≤ 0
  · rw [if_pos c1]
    refine ⟨m + 1, ?_⟩
    have := l_split h hl hlh w hN hb hk m 0 (by omega) (by omega)
    rw [e0, show l + 0 = l by omega] at this
    exact this
  · rw [if_neg c1, s0]
    have hnb : m + 1 ≤ N := by
      rcases hb with ⟨⟨j, j1, j2⟩, -⟩ | hb
      · have := mono 0 j (by omega) j1; omega
      · exact hb
    refine b_insAt (k := 0) h (by omega) (by omega) (fun M' f1 h1 => ⟨1, ?_⟩)
    unfold wX9_splitAtBottom_32
    rw [up_nei (by decide), h1.1.2.2.2.2]
    refine ⟨(inRl (by decide)), (inRof ⟨by omega, by omega⟩), ?_⟩
    rw [if_pos (by omega)]
    refine ⟨(inRl (by decide)), ?_⟩
    rw [if_pos rfl]
    refine hk 0 _ ⟨0, m + 1, _, _, f1.trans FrS.u1, ⟨⟨by rw [up_nei (by decide)]; exact h1.1.1, by rw [up_nei (by decide)]; exact h1.1.2.1, by rw [up_nei (by decide)]; exact h1.1.2.2.1, up_eq, by rw [up_nei (by decide)]; exact h1.1.2.2.2.2⟩, fun i hi' => by rw [up_ne (by decide), up_ne (by decide)]; exact h1.2 i hi'⟩, by omega, rfl, hnb, WW_ins w.ww ⟨Int.le_refl _, hlh⟩ (by omega) (by omega) (fun k hk' => by omega) (fun k k1 k2 => by have := w.1 k k2; omega), ?_, fun z z1 z2 => ?_⟩
    · rw [sm_ins m (by omega)]; omega
    · rw [ev_ins (by omega)]
      unfold ev
      rw [show max 0 (z - lo) = z - lo by omega]
      omega
def shF (P : Nat → Int) (j : Nat) (low high : Int) (i : Nat) : Int := if i < j then P i + low else P i + high
theorem l_spr {Q : Mm → Prop} {j : Nat} (hm : m ≤ 90) (hj : j ≤ m) : ∀ (n i : Nat) (M : Mm), i + n = m → M 91 4 = (m : Int) → (∀ k : Nat, k < i → M 92 (k : Int) = shF P j low high k) → (∀ k : Nat, i ≤ k → k < m → M 92 (k : Int) = P k) → (∀ M', (∀ c : Nat, c ≠ 92 → M' c = M c) → (∀ k : Nat, k < m → M' 92 (k : Int) = shF P j low high k) → wX9_spread_44 Q low high M') → wX9_spread_8 Q low high (j : Int) (n + 1) (i : Int) M := by
  intro n
  induction n with
  | zero =>
    intro i M hi' h4 h1 h2 hk
    unfold wX9_spread_8
    rw [h4]
    refine ⟨(inRof ⟨by omega, by omega⟩), (inRof ⟨by omega, by omega⟩), ?_⟩
    rw [if_neg (by omega)]
    exact hk M (fun _ _ => rfl) (fun k hk' => h1 k (by omega))
  | succ n ih =>
    intro i M hi' h4 h1 h2 hk
    unfold wX9_spread_8
    have hpi := h2 i (by omega) (by omega)
    rw [h4, hpi]
    refine ⟨(inRof ⟨by omega, by omega⟩), (inRof ⟨by omega, by omega⟩), ?_⟩
    rw [if_pos (by omega)]
    refine ⟨⟨by omega, by omega⟩, (inRof ⟨by omega, by omega⟩), ?_⟩
    have go : ∀ x : Int, x = shF P j low high i → wX9_spread_8 Q low high (j : Int) (n + 1) ((i : Int) + 1) (up M 92 (i : Int) x) := by
      intro x hx
      refine ih (i + 1) _ (by omega) (by rw [up_ne (by decide)]; exact h4) (fun k hk' => ?_) (fun k k1 k2 => by rw [up_nei (by omega)]; exact h2 k (by omega) k2) (fun M' g1 g2 => hk M' (fun c hc => by rw [g1 c hc, up_cell hc]) g2)
      by_cases q : k = i
      · rw [q, up_eq]; exact hx
      · rw [up_nei (by omega)]; exact h1 k (by omega)
    unfold shF at go
    by_cases c1 : i < j
    · rw [if_pos (by omega)]
      rw [if_pos c1] at go
      exact go _ rfl
    · rw [if_neg (by omega)]
      rw [if_neg c1] at go
      exact go _ rfl
theorem mnI_congr {f g : Int → Int} (h : a ≤ b) (e : ∀ z, a ≤ z → z ≤ b → f z = g z) : mnI f a b = mnI g a b := by
  obtain ⟨⟨y, y1, y2, y3⟩, hm⟩ := mnI_spec (f := g) h
  refine mnI_eq y1 y2 (by rw [e y y1 y2, y3]) (fun x x1 x2 => ?_)
  rw [e x x1 x2]
  exact hm x x1 x2
theorem b_spread {M : Mm} (h : SR M lo hi v l m P T) (hr : -1000 ≤ lo ∧ hi ≤ 5000) (hl : -2400 ≤ l ∧ l + sm T m ≤ 2400) (hlh : lo ≤ hi) (hlh2 : low ≤ high) (w : WS lo hi m P T) (hN : N ≤ 90) (hb : Bal l T m N) (hk : ∀ M' l' m' P' T', FrS M M' → SR M' (lo + low) (hi + high) v l' m' P' T' → WW (lo + low) (hi + high) m' P' T' → (∃ j, j ≤ m' ∧ l' + sm T' j = 0) → m' ≤ N → (min l 0 ≤ l' ∧ l' + sm T' m' ≤ max (l + sm T m) 0) → (∀ z, lo + low ≤ z → z ≤ hi + high → ev (lo + low) v l' P' T' m' z = mnI (ev lo v l P T m) (max lo (z - high)) (min hi (z - low))) → kv M') : Bv (wX9_spread low high M) kv := by
  apply Bv.of; unfold wX9_spread
  refine b_split h hr hl hlh w hN hb (fun j M1 hs => ?_)
  obtain ⟨l', m', P', T', f1, h1, hj, hz, hm', w1, hb1, he⟩ := hs
  refine ⟨m' + 1, ?_⟩
  refine l_spr (P := P') (j := j) (by omega) hj m' 0 M1 (by omega) h1.1.2.2.2.2 (fun k hk' => by omega) (fun k _ k2 => (h1.2 k k2).1) (fun M2 g1 g2 => ?_)
  unfold wX9_spread_44
  rw [g1 91 (by decide), h1.1.1, h1.1.2.1]
  refine hk _ l' m' (shF P' j low high) T' (f1.trans (fun c q1 q2 q3 => by rw [up_cell q1, up_cell q1, g1 c q2])) ⟨⟨by rw [up_nei (by decide), up_eq], up_eq, by rw [up_nei (by decide), up_nei (by decide), g1 91 (by decide)]; exact h1.1.2.2.1, by rw [up_nei (by decide), up_nei (by decide), g1 91 (by decide)]; exact h1.1.2.2.2.1, by rw [up_nei (by decide), up_nei (by decide), g1 91 (by decide)]; exact h1.1.2.2.2.2⟩, fun i hi' => ⟨by rw [up_ne (by decide), up_ne (by decide)]; exact g2 i hi', by rw [up_ne (by decide), up_ne (by decide), g1 93 (by decide)]; exact (h1.2 i hi').2⟩⟩ ⟨fun i hi' => ?_, fun i k hik hk' => ?_⟩ ⟨j, hj, hz⟩ hm' hb1 (fun z z1 z2 => ?_)
  · have := w1.1 i hi'
    unfold shF
    split <;> omega
  · have := w1.2 i k hik hk'
    unfold shF
    by_cases c1 : i < j
    · rw [if_pos c1]
      split <;> omega
    · rw [if_neg c1, if_neg (by omega)]; omega
  · have t1 : lo ≤ (if j = 0 then lo else P' (j - 1)) ∧ (if j = 0 then lo else P' (j - 1)) ≤ hi := by
      by_cases q : j = 0
      · rw [if_pos q]; omega
      · rw [if_neg q]; have := w1.1 (j - 1) (by omega); omega
    have t2 : ∀ i, i < j → P' i ≤ (if j = 0 then lo else P' (j - 1)) := by
      intro i hi'
      rw [if_neg (by omega)]
      by_cases q : i = j - 1
      · rw [q]; exact Int.le_refl _
      · exact w1.2 i (j - 1) (by omega) (by omega)
    have t3 : ∀ i, j ≤ i → i < m' → (if j = 0 then lo else P' (j - 1)) ≤ P' i := by
      intro i i1 i2
      by_cases q : j = 0
      · rw [if_pos q]; exact (w1.1 i i2).2.1
      · rw [if_neg q]; exact w1.2 (j - 1) i (by omega) i2
    have key := ev_spread (P := P') (v := v) (z := z) hlh2 hj (fun i hi' => by have := (w1.1 i hi').1; omega) hz t1 t2 t3 ⟨z1, z2⟩
    have e2 : mnI (ev lo v l' P' T' m') (max lo (z - high)) (min hi (z - low)) = mnI (ev lo v l P T m) (max lo (z - high)) (min hi (z - low)) := mnI_congr (by omega) (fun y y1 y2 => he y (by omega) (by omega))
    rw [← e2]
    exact key
end Xt
