/-! ===== the class's slope: cut, bottom ===== -/
section Xc
variable {kv : Mm → Prop} {kk : Int → Mm → Prop} {P T φ : Nat → Int} {m k N : Nat} {lo hi v l x t w a b c cp low high : Int}
theorem l_sdrop {Q : Mm → Prop} (hm : m ≤ 90) (hk : k ≤ m) : ∀ (n i : Nat) (M : Mm), i + n = m → k ≤ i → M 91 4 = (m : Int) → (∀ y : Nat, k + y < i → M 92 (y : Int) = P (k + y) ∧ M 93 (y : Int) = T (k + y)) → (∀ y : Nat, i ≤ y → y < m → M 92 (y : Int) = P y ∧ M 93 (y : Int) = T y) → (∀ M', FrS M M' → (∀ s, s ≠ 4 → M' 91 s = M 91 s) → M' 91 4 = ((m - k : Nat) : Int) → (∀ y : Nat, k + y < m → M' 92 (y : Int) = P (k + y) ∧ M' 93 (y : Int) = T (k + y)) → Q M') → wX9_dropFirst_2 Q (k : Int) (n + 1) (i : Int) M := by
  intro n
  induction n with
  | zero =>
    intro i M hi' hki h4 h1 h2 hq
    unfold wX9_dropFirst_2
    rw [h4]
    refine ⟨(inRof ⟨by omega, by omega⟩), (inRof ⟨by omega, by omega⟩), ?_⟩
    rw [if_neg (by omega)]
    unfold wX9_dropFirst_44
    rw [h4]
    exact hq _ FrS.u1 (fun s hs => up_nei hs) (by rw [up_eq]; omega) (fun y hy => by rw [up_ne (by decide), up_ne (by decide)]; exact h1 y (by omega))
  | succ n ih =>
    intro i M hi' hki h4 h1 h2 hq
    unfold wX9_dropFirst_2
    have hp := h2 i (Nat.le_refl _) (by omega)
    rw [h4, hp.1, hp.2]
    refine ⟨(inRof ⟨by omega, by omega⟩), (inRof ⟨by omega, by omega⟩), ?_⟩
    rw [if_pos (by omega), show (i : Int) - (k : Int) = ((i - k : Nat) : Int) by omega]
    refine ⟨⟨by omega, by omega⟩, ⟨by omega, by omega⟩, ?_⟩
    refine ih (i + 1) _ (by omega) (by omega) (by rw [up_ne (by decide), up_ne (by decide)]; exact h4) (fun y hy => ?_) (fun y y1 y2 => ?_) (fun M' f1 g1 g2 g3 => hq M' ((FrS.u2.trans FrS.u3).trans f1) (fun s hs => by rw [g1 s hs, up_ne (by decide), up_ne (by decide)]) g2 g3)
    · rw [up_ne (show 92 ≠ 93 by decide)]
      by_cases q : y = i - k
      · rw [q, up_eq, up_eq, show k + (i - k) = i by omega]; exact ⟨rfl, rfl⟩
      · rw [up_nei (by omega), up_nei (by omega), up_ne (show 93 ≠ 92 by decide)]; exact h1 y (by omega)
    · rw [up_ne (show 92 ≠ 93 by decide), up_nei (by omega), up_nei (by omega), up_ne (show 93 ≠ 92 by decide)]
      exact h2 y (by omega) y2
theorem l_cut143 {Q : Int → Mm → Prop} (hr : -1000 ≤ lo ∧ hi ≤ 5000) (hP : ∀ i, i < m → -5000 ≤ P i ∧ P i ≤ 5000) (hm : m ≤ 90) (hlh : lo ≤ hi) : ∀ (n : Nat) (M : Mm), n ≤ m → SR M lo hi v l n P T → (∀ i, n ≤ i → i < m → hi ≤ P i) → (∀ M' (n' : Nat), n' ≤ m → FrS M M' → SR M' lo hi v l n' P T → (∀ i, n' ≤ i → i < m → hi ≤ P i) → (n' = 0 ∨ P (n' - 1) < hi) → Q 1 M') → wX9_cutTo_143 Q hi (n + 1) M := by
  intro n
  induction n with
  | zero =>
    intro M hn h h1 hk
    unfold wX9_cutTo_143
    rw [h.1.2.2.2.2]
    refine ⟨(inRl (by decide)), ?_⟩
    rw [if_pos (by omega)]
    exact hk M 0 hn FrS.refl h h1 (Or.inl rfl)
  | succ n ih =>
    intro M hn h h1 hk
    unfold wX9_cutTo_143
    have hp := (h.2 n (by omega)).1
    have hP' := hP n (by omega)
    rw [h.1.2.2.2.2]
    refine ⟨(inRof ⟨by omega, by omega⟩), ?_⟩
    rw [if_neg (by omega), show ((n + 1 : Nat) : Int) - 1 = (n : Int) by omega, hp]
    refine ⟨⟨by omega, by omega⟩, (inRof ⟨by omega, by omega⟩), (inRof ⟨by omega, by omega⟩), ?_⟩
    by_cases q : P n < hi
    · rw [if_pos q]
      exact hk M (n + 1) hn FrS.refl h h1 (Or.inr q)
    · rw [if_neg q]
      refine ih _ (by omega) ⟨⟨by rw [up_nei (by decide)]; exact h.1.1, by rw [up_nei (by decide)]; exact h.1.2.1, by rw [up_nei (by decide)]; exact h.1.2.2.1, by rw [up_nei (by decide)]; exact h.1.2.2.2.1, up_eq⟩, fun i hi' => by rw [up_ne (by decide), up_ne (by decide)]; exact h.2 i (by omega)⟩ (fun i i1 i2 => ?_) (fun M' n' g1 f1 => hk M' n' g1 (FrS.u1.trans f1))
      by_cases e : i = n
      · rw [e]; omega
      · exact h1 i (by omega) i2
/-- what a cut leaves -/
def Cut (M M' : Mm) (lo v l : Int) (m : Nat) (P T : Nat → Int) (fr to : Int) : Prop := ∃ v' l' m' P' T', FrS M M' ∧ SR M' fr to v' l' m' P' T' ∧ WS fr to m' P' T' ∧ (((∃ j, j ≤ m' ∧ l' + sm T' j = 0) ∧ m' ≤ m) ∨ m' + 1 ≤ m) ∧ (l ≤ l' ∧ l' + sm T' m' ≤ l + sm T m) ∧ ∀ z, fr ≤ z → z ≤ to → ev fr v' l' P' T' m' z = ev lo v l P T m z
theorem l_cut107 {M0 M : Mm} {Q : Int → Mm → Prop} {lo' v' l' fr to : Int} (f0 : FrS M0 M) (h : SR M lo' hi v' l' m P T) (hm : m ≤ 90) (w : WW lo hi m P T) (hr : -1000 ≤ lo ∧ hi ≤ 5000) (hft : fr ≤ to) (hlo : lo ≤ fr) (hhi : to ≤ hi) (hk : k ≤ m) (hl' : l' = l + sm T k) (hbal : ∃ j, j ≤ m ∧ l + sm T j = 0) (hpass : ∀ i, i < k → P i ≤ fr) (hstop : k = m ∨ fr < P k) (hev : ∀ z, fr ≤ z → ev lo' v' l' (fun i => P (k + i)) (fun i => T (k + i)) (m - k) z = ev lo v l P T m z) (hq : ∀ M', Cut M0 M' lo v l m P T fr to → Q 1 M') : wX9_cutTo_107 Q fr to (k : Int) M := by
  obtain ⟨⟨s0, s1, s2, s3, s4⟩, hp⟩ := id h
  have hT : ∀ i, i < m → 0 ≤ T i := fun i hi' => by have := w.1 i hi'; omega
  have mono := fun i j => sm_mono (φ := T) (m := m) (i := i) hT j
  unfold wX9_cutTo_107
  rw [s2, s3, s0]
  apply Bv.of; unfold wX9_dropFirst
  refine ⟨m - k + 1, ?_⟩
  refine l_sdrop (P := P) (T := T) hm hk (m - k) k _ (by omega) (Nat.le_refl _) (by rw [up_nei (by decide), up_nei (by decide), up_nei (by decide)]; exact s4) (fun y hy => by omega) (fun y y1 y2 => by rw [up_ne (by decide), up_ne (by decide), up_ne (by decide), up_ne (by decide), up_ne (by decide), up_ne (by decide)]; exact hp y y2) (fun M1 f1 g1 g2 g3 => ?_)
  have h1 : SR M1 fr to (v' + l' * (fr - lo')) l' (m - k) (fun i => P (k + i)) (fun i => T (k + i)) := ⟨⟨by rw [g1 0 (by decide), up_nei (by decide), up_eq], by rw [g1 1 (by decide), up_eq], by rw [g1 2 (by decide), up_nei (by decide), up_nei (by decide), up_eq], by rw [g1 3 (by decide), up_nei (by decide), up_nei (by decide), up_nei (by decide)]; exact s3, g2⟩, fun i hi' => g3 i (by omega)⟩
  refine ⟨m - k + 1, l_cut143 (m := m - k) (by omega) (fun i hi' => by have := w.1 (k + i) (by omega); omega) (by omega) hft (m - k) M1 (Nat.le_refl _) h1 (fun i i1 i2 => by omega) (fun M2 n' hn f2 h2 z1 z2 => ?_)⟩
  refine hq M2 ⟨_, l', n', _, _, f0.trans ((((FrS.u1).trans FrS.u1).trans FrS.u1).trans (f1.trans f2)), h2, ⟨fun i hi' => ?_, fun i j hij hj => w.2 (k + i) (k + j) (by omega) (by omega)⟩, ?_, ?_, fun z y1 y2 => ?_⟩
  · have a1 := w.1 (k + i) (by omega)
    refine ⟨a1.1, ?_, ?_⟩
    · show fr < P (k + i)
      rcases hstop with e | e
      · omega
      · by_cases q : i = 0
        · rw [q]; exact e
        · have := w.2 k (k + i) (by omega) (by omega); omega
    · show P (k + i) < to
      rcases z2 with e | e
      · omega
      · have e : P (k + (n' - 1)) < to := e
        by_cases q : i = n' - 1
        · rw [q]; exact e
        · have := w.2 (k + i) (k + (n' - 1)) (by omega) (by omega); omega
  · obtain ⟨j, j1, j2⟩ := hbal
    by_cases q1 : j < k
    · exact Or.inr (by omega)
    · by_cases q2 : j ≤ k + n'
      · refine Or.inl ⟨⟨j - k, by omega, ?_⟩, by omega⟩
        have e := sm_shift (φ := T) (k := k) (j - k)
        rw [show k + (j - k) = j by omega] at e
        omega
      · exact Or.inr (by omega)
  · have e := sm_shift (φ := T) (k := k) n'
    have m0 := mono 0 k (by omega) hk
    have m1 := mono (k + n') m (by omega) (Nat.le_refl _)
    have e0 : sm T 0 = 0 := rfl
    omega
  · rw [ev_drop (m := m - k) hn (fun i i1 i2 => by have := z1 i i1 i2; omega), ev_from]
    exact hev z y1
theorem l_cut28 {M0 : Mm} {Q : Int → Mm → Prop} {fr to : Int} (hm : m ≤ 90) (w : WW lo hi m P T) (hr : -1000 ≤ lo ∧ hi ≤ 5000) (hft : fr ≤ to) (hlo : lo ≤ fr) (hhi : to ≤ hi) (hbal : ∃ j, j ≤ m ∧ l + sm T j = 0) (hq : ∀ M', Cut M0 M' lo v l m P T fr to → Q 1 M') : ∀ (n k : Nat) (lo' v' l' : Int) (M : Mm), k + n = m → FrS M0 M → SR M lo' hi v' l' m P T → l' = l + sm T k → (∀ i, i < k → P i ≤ fr) → (∀ z, fr ≤ z → ev lo' v' l' (fun i => P (k + i)) (fun i => T (k + i)) (m - k) z = ev lo v l P T m z) → wX9_cutTo_28 Q fr to (n + 1) (k : Int) M := by
  intro n
  induction n with
  | zero =>
    intro k lo' v' l' M hk f0 h hl' hp hev
    unfold wX9_cutTo_28
    rw [h.1.2.2.2.2]
    refine ⟨(inRof ⟨by omega, by omega⟩), (inRof ⟨by omega, by omega⟩), ?_⟩
    rw [if_neg (by omega)]
    exact l_cut107 f0 h hm w hr hft hlo hhi (by omega) hl' hbal hp (Or.inl (by omega)) hev hq
  | succ n ih =>
    intro k lo' v' l' M hk f0 h hl' hp hev
    unfold wX9_cutTo_28
    have hpk := h.2 k (by omega)
    have hwk := w.1 k (by omega)
    rw [h.1.2.2.2.2]
    refine ⟨(inRof ⟨by omega, by omega⟩), (inRof ⟨by omega, by omega⟩), ?_⟩
    rw [if_pos (by omega), hpk.1, hpk.2, h.1.2.2.1, h.1.2.2.2.1, h.1.1]
    refine ⟨⟨by omega, by omega⟩, (inRof ⟨by omega, by omega⟩), (inRof ⟨by omega, by omega⟩), ?_⟩
    by_cases q : P k ≤ fr
    · rw [if_pos q]
      refine ih (k + 1) (P k) (v' + l' * (P k - lo')) (l' + T k) _ (by omega) (f0.trans ((FrS.u1.trans FrS.u1).trans FrS.u1)) ⟨⟨by rw [up_nei (by decide), up_eq], by rw [up_nei (by decide), up_nei (by decide), up_nei (by decide)]; exact h.1.2.1, by rw [up_nei (by decide), up_nei (by decide), up_eq], up_eq, by rw [up_nei (by decide), up_nei (by decide), up_nei (by decide)]; exact h.1.2.2.2.2⟩, fun i hi' => by rw [up_ne (by decide), up_ne (by decide), up_ne (by decide), up_ne (by decide), up_ne (by decide), up_ne (by decide)]; exact h.2 i hi'⟩ ?_ (fun i hi' => ?_) (fun z hz => ?_)
      · have e1 : sm T (k + 1) = sm T k + T k := rfl
        omega
      · by_cases e : i = k
        · rw [e]; exact q
        · exact hp i (by omega)
      · rw [ev_pass (by omega) (by omega)]
        exact hev z hz
    · rw [if_neg q]
      exact l_cut107 f0 h hm w hr hft hlo hhi (by omega) hl' hbal hp (Or.inr (by omega)) hev hq
theorem b_cutTo {M : Mm} (h : SR M lo hi v l m P T) (hm : m ≤ 90) (w : WW lo hi m P T) (hr : -1000 ≤ lo ∧ hi ≤ 5000 ∧ lo ≤ 5000 ∧ -5000 ≤ hi) (hcp : 0 ≤ cp ∧ cp ≤ 1000) (hbal : ∃ j, j ≤ m ∧ l + sm T j = 0) (h1 : max lo 0 ≤ min hi cp → ∀ M', Cut M M' lo v l m P T (max lo 0) (min hi cp) → kk 1 M') (h0 : ¬ max lo 0 ≤ min hi cp → kk 0 M) : Bd (wX9_cutTo cp M) kk := by
  apply Bd.of; unfold wX9_cutTo
  rw [h.1.1]
  refine b_max (inRof ⟨by omega, by omega⟩) (inRl (by decide)) ?_
  rw [h.1.2.1]
  refine b_min (inRof ⟨by omega, by omega⟩) (inRof ⟨by omega, by omega⟩) ?_
  refine ⟨(inRof ⟨by omega, by omega⟩), (inRof ⟨by omega, by omega⟩), ?_⟩
  by_cases q : max lo 0 ≤ min hi cp
  · rw [if_pos q]
    refine ⟨m + 1, l_cut28 (M0 := M) hm w (by omega) q (by omega) (by omega) hbal (h1 q) m 0 lo v l M (by omega) FrS.refl h ?_ (fun i hi' => by omega) (fun z _ => ?_)⟩
    · show l = l + 0
      omega
    · have e1 : (fun i => P (0 + i)) = P := funext fun i => by rw [Nat.zero_add]
      have e2 : (fun i => T (0 + i)) = T := funext fun i => by rw [Nat.zero_add]
      rw [e1, e2, Nat.sub_zero]
  · rw [if_neg q]
    exact h0 q
/-! bottoms -/
theorem l_bot {M : Mm} {Q : Int → Mm → Prop} (h : SR M lo hi v l m P T) (hl : -2400 ≤ l ∧ l + sm T m ≤ 2400) (hlh : lo ≤ hi) (hm : m ≤ 90) (w : WS lo hi m P T) (hk : ∀ t, Um lo hi (ev lo v l P T m) t → Q t M) : ∀ (n i : Nat), i + n = m → l + sm T i < 0 → wX9_bottom_19 Q (n + 1) (l + sm T i) (i : Int) M := by
  have hT : ∀ i, i < m → 0 ≤ T i := fun i hi' => by have := w.1 i hi'; omega
  have mono := fun i j => sm_mono (φ := T) (m := m) (i := i) hT j
  obtain ⟨⟨s0, s1, s2, s3, s4⟩, hp⟩ := id h
  intro n
  induction n with
  | zero =>
    intro i hi' hneg
    have e : i = m := by omega
    subst e
    unfold wX9_bottom_19
    rw [s4]
    refine ⟨(inRof ⟨by omega, by omega⟩), (inRof ⟨by omega, by omega⟩), ?_⟩
    rw [if_neg (by omega), s1]
    refine hk hi (um_ev ⟨hlh, Int.le_refl _⟩ (fun z z1 z2 => ?_) (fun z z1 z2 => by omega))
    have := slp_le (l := l) (P := P) (z := z) (Nat.le_refl i) hT (fun k k1 k2 => by omega)
    omega
  | succ n ih =>
    intro i hi' hneg
    unfold wX9_bottom_19
    have m0 := mono 0 i (by omega) (by omega)
    have m1 := mono (i + 1) m (by omega) (by omega)
    have e0 : sm T 0 = 0 := rfl
    have e1 : sm T (i + 1) = sm T i + T i := rfl
    have hpi := hp i (by omega)
    have hwi := w.1 i (by omega)
    rw [s4, hpi.2]
    refine ⟨(inRof ⟨by omega, by omega⟩), (inRof ⟨by omega, by omega⟩), ?_⟩
    rw [if_pos (by omega)]
    refine ⟨⟨by omega, by omega⟩, (inRof ⟨by omega, by omega⟩), ?_⟩
    by_cases c1 : l + sm T i + T i < 0
    · rw [if_pos c1]
      have := ih (i + 1) (by omega) (by omega)
      rw [e1, show l + (sm T i + T i) = l + sm T i + T i by omega] at this
      exact this
    · rw [if_neg c1]
      unfold wX9_bottom_40
      rw [hpi.1]
      refine ⟨⟨by omega, by omega⟩, hk (P i) (um_ev ⟨by omega, by omega⟩ (fun z z1 z2 => ?_) (fun z z1 z2 => ?_))⟩
      · have := slp_le (l := l) (P := P) (z := z) (show i ≤ m by omega) hT (fun k k1 k2 => by
          by_cases q : k = i
          · rw [q]; exact z2
          · have := w.2 i k (by omega) k2; omega)
        omega
      · have := slp_ge (l := l) (P := P) (z := z) (show i + 1 ≤ m by omega) hT (fun k k1 => by
          by_cases q : k = i
          · rw [q]; exact z1
          · have := w.2 k i (by omega) (by omega); omega)
        omega
theorem b_bot {M : Mm} (h : SR M lo hi v l m P T) (hl : -2400 ≤ l ∧ l + sm T m ≤ 2400) (hlh : lo ≤ hi) (hm : m ≤ 90) (w : WS lo hi m P T) (hk : ∀ t, Um lo hi (ev lo v l P T m) t → kk t M) : Bd (wX9_bottom M) kk := by
  have hT : ∀ i, i < m → 0 ≤ T i := fun i hi' => by have := w.1 i hi'; omega
  have m0 := sm_mono (φ := T) (m := m) (i := 0) hT m (by omega) (by omega)
  have e0 : sm T 0 = 0 := rfl
  apply Bd.of; unfold wX9_bottom
  rw [h.1.2.2.2.1]
  refine ⟨(inRof ⟨by omega, by omega⟩), ?_⟩
  by_cases c : l < 0
  · rw [if_pos c]
    refine ⟨m + 1, ?_⟩
    have := l_bot h hl hlh hm w hk m 0 (by omega) (by omega)
    rw [e0, show l + 0 = l by omega] at this
    exact this
  · rw [if_neg c, h.1.1]
    refine hk lo (um_ev ⟨Int.le_refl _, hlh⟩ (fun z z1 z2 => by omega) (fun z z1 z2 => ?_))
    have := slp_ge (l := l) (P := P) (z := z) (Nat.zero_le m) hT (fun k k1 => by omega)
    omega
theorem sm_lin {q z : Int} : ∀ i : Nat, (∀ k, k < i → P k ≤ q) → q ≤ z → sm (fun k => T k * max 0 (z - P k)) i = sm (fun k => T k * max 0 (q - P k)) i + sm T i * (z - q)
  | 0, _, _ => by show (0 : Int) = 0 + 0 * (z - q); omega
  | i + 1, h, hz => by
    have ih := sm_lin i (fun k hk => h k (by omega)) hz
    have := h i (by omega)
    show sm (fun k => T k * max 0 (z - P k)) i + T i * max 0 (z - P i) = sm (fun k => T k * max 0 (q - P k)) i + T i * max 0 (q - P i) + (sm T i + T i) * (z - q)
    rw [ih, show max 0 (z - P i) = max 0 (q - P i) + (z - q) by omega, Int.mul_add, Int.add_mul]
    omega
theorem ev_lin {q z : Int} {i : Nat} (hi' : i ≤ m) (h1 : ∀ k, k < i → P k ≤ q) (h2 : ∀ k, i ≤ k → k < m → z ≤ P k) (hz : q ≤ z) : ev lo v l P T m z = ev lo v l P T m q + (l + sm T i) * (z - q) := by
  have a1 := ev_drop (lo := lo) (v := v) (l := l) (T := T) (z := z) hi' h2
  have a2 := ev_drop (lo := lo) (v := v) (l := l) (T := T) (P := P) (z := q) hi' (fun k k1 k2 => by have := h2 k k1 k2; omega)
  rw [← a1, ← a2]
  unfold ev
  rw [sm_lin i h1 hz, Int.add_mul]
  have : l * (z - lo) = l * (q - lo) + l * (z - q) := by rw [← Int.mul_add, show q - lo + (z - q) = z - lo by omega]
  omega
theorem l_bc {M : Mm} {Q : Int → Mm → Prop} (h : SR M lo hi v l m P T) (hl : -2400 ≤ l ∧ l + sm T m ≤ 2400) (hlh : lo ≤ hi) (hm : m ≤ 90) (w : WS lo hi m P T) (hk : ∀ t, Um lo hi (ev lo v l P T m) t → Q (ev lo v l P T m t) M) : ∀ (n i : Nat) (q : Int), i + n = m → ((i = 0 ∧ q = lo) ∨ (0 < i ∧ q = P (i - 1) ∧ l + sm T (i - 1) < 0)) → wX9_bottomCost_18 Q (n + 1) (ev lo v l P T m q) q (l + sm T i) (i : Int) M := by
  have hT : ∀ i, i < m → 0 ≤ T i := fun i hi' => by have := w.1 i hi'; omega
  have mono := fun i j => sm_mono (φ := T) (m := m) (i := i) hT j
  obtain ⟨⟨s0, s1, s2, s3, s4⟩, hp⟩ := id h
  have e0 : sm T 0 = 0 := rfl
  have facts : ∀ (i : Nat) (q : Int), i ≤ m → ((i = 0 ∧ q = lo) ∨ (0 < i ∧ q = P (i - 1) ∧ l + sm T (i - 1) < 0)) → (lo ≤ q ∧ q ≤ hi) ∧ (∀ k, k < i → P k ≤ q) ∧ (∀ k, i ≤ k → k < m → q ≤ P k) := by
    intro i q him hq
    rcases hq with ⟨e1, e2⟩ | ⟨e1, e2, e3⟩
    · exact ⟨by omega, fun k hk' => by omega, fun k _ k2 => by have := w.1 k k2; omega⟩
    · have := w.1 (i - 1) (by omega)
      refine ⟨by omega, fun k hk' => ?_, fun k k1 k2 => ?_⟩
      · by_cases z : k = i - 1
        · rw [z]; omega
        · have := w.2 k (i - 1) (by omega) (by omega); omega
      · have := w.2 (i - 1) k (by omega) k2; omega
  have up0 : ∀ (i : Nat) (q : Int), i ≤ m → ((i = 0 ∧ q = lo) ∨ (0 < i ∧ q = P (i - 1) ∧ l + sm T (i - 1) < 0)) → 0 ≤ l + sm T i → Um lo hi (ev lo v l P T m) q := by
    intro i q him hq hpos
    obtain ⟨f1, f2, f3⟩ := facts i q him hq
    refine um_ev f1 (fun z z1 z2 => ?_) (fun z z1 z2 => ?_)
    · rcases hq with ⟨e1, e2⟩ | ⟨e1, e2, e3⟩
      · omega
      · have := slp_le (l := l) (P := P) (z := z) (show i - 1 ≤ m by omega) hT (fun k k1 k2 => by
          by_cases y : k = i - 1
          · rw [y]; omega
          · have := w.2 (i - 1) k (by omega) k2; omega)
        omega
    · have := slp_ge (l := l) (P := P) (z := z) him hT (fun k k1 => by have := f2 k k1; omega)
      omega
  have done : ∀ (i : Nat) (q : Int), i ≤ m → ((i = 0 ∧ q = lo) ∨ (0 < i ∧ q = P (i - 1) ∧ l + sm T (i - 1) < 0)) → (0 ≤ l + sm T i ∨ i = m) → wX9_bottomCost_69 Q (ev lo v l P T m q) q (l + sm T i) M := by
    intro i q him hq hend
    obtain ⟨f1, f2, f3⟩ := facts i q him hq
    have m0 := mono 0 i (by omega) him
    have m1 := mono i m him (Nat.le_refl _)
    unfold wX9_bottomCost_69
    refine ⟨(inRof ⟨by omega, by omega⟩), ?_⟩
    by_cases c1 : l + sm T i < 0
    · rw [if_pos c1, s1]
      have e : i = m := by omega
      have el := ev_lin (lo := lo) (v := v) (l := l) (T := T) (P := P) (q := q) (z := hi) him f2 (fun k k1 k2 => by omega) f1.2
      rw [← el]
      refine hk hi (um_ev ⟨hlh, Int.le_refl _⟩ (fun z z1 z2 => ?_) (fun z z1 z2 => by omega))
      have := slp_le (l := l) (P := P) (z := z) him hT (fun k k1 k2 => by omega)
      omega
    · rw [if_neg c1]
      exact hk q (up0 i q him hq (by omega))
  intro n
  induction n with
  | zero =>
    intro i q hi' hq
    unfold wX9_bottomCost_18
    rw [s4]
    refine ⟨(inRof ⟨by omega, by omega⟩), (inRof ⟨by omega, by omega⟩), ?_⟩
    rw [if_neg (by omega)]
    exact done i q (by omega) hq (Or.inr (by omega))
  | succ n ih =>
    intro i q hi' hq
    obtain ⟨f1, f2, f3⟩ := facts i q (by omega) hq
    have m0 := mono 0 i (by omega) (by omega)
    have m1 := mono i m (by omega) (Nat.le_refl _)
    unfold wX9_bottomCost_18
    rw [s4]
    refine ⟨(inRof ⟨by omega, by omega⟩), (inRof ⟨by omega, by omega⟩), ?_⟩
    rw [if_pos (by omega)]
    refine ⟨(inRof ⟨by omega, by omega⟩), ?_⟩
    by_cases c1 : l + sm T i < 0
    · rw [if_pos c1, (hp i (by omega)).1, (hp i (by omega)).2]
      refine ⟨⟨by omega, by omega⟩, ?_⟩
      have el := ev_lin (lo := lo) (v := v) (l := l) (T := T) (P := P) (q := q) (z := P i) (i := i) (show i ≤ m by omega) f2 (fun k k1 k2 => by
        by_cases y : k = i
        · rw [y]; exact Int.le_refl _
        · exact w.2 i k (by omega) k2) (f3 i (Nat.le_refl _) (by omega))
      rw [← el]
      have := ih (i + 1) (P i) (by omega) (Or.inr ⟨by omega, by rw [Nat.add_sub_cancel], by rw [Nat.add_sub_cancel]; exact c1⟩)
      have e1 : sm T (i + 1) = sm T i + T i := rfl
      rw [e1, show l + (sm T i + T i) = l + sm T i + T i by omega] at this
      exact this
    · rw [if_neg c1]
      exact done i q (by omega) hq (Or.inl (by omega))
theorem b_botC {M : Mm} (h : SR M lo hi v l m P T) (hl : -2400 ≤ l ∧ l + sm T m ≤ 2400) (hlh : lo ≤ hi) (hm : m ≤ 90) (w : WS lo hi m P T) (hk : kk (mnI (ev lo v l P T m) lo hi) M) : Bd (wX9_bottomCost M) kk := by
  apply Bd.of; unfold wX9_bottomCost
  rw [h.1.2.2.1, h.1.1, h.1.2.2.2.1]
  refine ⟨m + 1, ?_⟩
  have := l_bc (Q := kk) h hl hlh hm w (fun t ht => by rw [← ht.mn]; exact hk) m 0 lo (by omega) (Or.inl ⟨rfl, rfl⟩)
  have e0 : sm T 0 = 0 := rfl
  have e1 : ev lo v l P T m lo = v := by
    unfold ev
    rw [sm_zero (φ := fun i => T i * max 0 (lo - P i)) m (fun i hi' => by
      show T i * max 0 (lo - P i) = 0
      have := w.1 i hi'
      rw [show max 0 (lo - P i) = 0 by omega, Int.mul_zero]), show lo - lo = 0 by omega, Int.mul_zero]
    omega
  rw [e0, e1, show l + 0 = l by omega] at this
  exact this
end Xc
