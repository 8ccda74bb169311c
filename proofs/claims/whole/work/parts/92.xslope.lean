/-! ===== the class's slope: insert, miss ===== -/
def SR (M : Mm) (lo hi v l : Int) (m : Nat) (P T : Nat → Int) : Prop := (M 91 0 = lo ∧ M 91 1 = hi ∧ M 91 2 = v ∧ M 91 3 = l ∧ M 91 4 = (m : Int)) ∧ ∀ i : Nat, i < m → M 92 (i : Int) = P i ∧ M 93 (i : Int) = T i
def FrS (M M' : Mm) : Prop := ∀ c : Nat, c ≠ 91 → c ≠ 92 → c ≠ 93 → M' c = M c
theorem FrS.refl {M : Mm} : FrS M M := fun _ _ _ _ => rfl
theorem FrS.trans {M M1 M2 : Mm} (h1 : FrS M M1) (h2 : FrS M1 M2) : FrS M M2 := fun c a b d => (h2 c a b d).trans (h1 c a b d)
theorem FrS.u1 {M : Mm} {i x : Int} : FrS M (up M 91 i x) := fun c a _ _ => up_cell a
theorem FrS.u2 {M : Mm} {i x : Int} : FrS M (up M 92 i x) := fun c _ a _ => up_cell a
theorem FrS.u3 {M : Mm} {i x : Int} : FrS M (up M 93 i x) := fun c _ _ a => up_cell a
def WS (lo hi : Int) (m : Nat) (P T : Nat → Int) : Prop := (∀ i, i < m → 1 ≤ T i ∧ lo < P i ∧ P i < hi) ∧ ∀ i j, i < j → j < m → P i ≤ P j
section Xs
variable {kv : Mm → Prop} {kk : Int → Mm → Prop} {P T : Nat → Int} {m k : Nat} {lo hi v l x t w a b : Int}
theorem WS_ins (h : WS lo hi m P T) (hx : lo < x ∧ x < hi) (ht : 1 ≤ t) (hk : k ≤ m) (h1 : ∀ i, i < k → P i ≤ x) (h2 : ∀ i, k ≤ i → i < m → x < P i) : WS lo hi (m + 1) (insF P k x) (insF T k t) := by
  refine ⟨fun i hi' => ?_, fun i j hij hj => ?_⟩
  · unfold insF
    by_cases c1 : i < k
    · rw [if_pos c1, if_pos c1]; exact h.1 i (by omega)
    · rw [if_neg c1, if_neg c1]
      by_cases c2 : i = k
      · rw [if_pos c2, if_pos c2]; exact ⟨ht, hx.1, hx.2⟩
      · rw [if_neg c2, if_neg c2]; exact h.1 (i - 1) (by omega)
  · unfold insF
    by_cases c1 : i < k
    · rw [if_pos c1]
      by_cases d1 : j < k
      · rw [if_pos d1]; exact h.2 i j hij (by omega)
      · rw [if_neg d1]
        by_cases d2 : j = k
        · rw [if_pos d2]; exact h1 i c1
        · rw [if_neg d2]; exact h.2 i (j - 1) (by omega) (by omega)
    · rw [if_neg c1, if_neg (show ¬ j < k by omega), if_neg (show ¬ j = k by omega)]
      by_cases c2 : i = k
      · rw [if_pos c2]; have := h2 (j - 1) (by omega) (by omega); omega
      · rw [if_neg c2]; exact h.2 (i - 1) (j - 1) (by omega) (by omega)
theorem l_insAt {Q : Mm → Prop} (hm : m < 96) : ∀ (n : Nat) (M : Mm), k + n ≤ m → M 91 4 = (m : Int) → (∀ i : Nat, i < k + n → M 92 (i : Int) = P i ∧ M 93 (i : Int) = T i) → (∀ i : Nat, k + n < i → i ≤ m → M 92 (i : Int) = P (i - 1) ∧ M 93 (i : Int) = T (i - 1)) → (∀ M', FrS M M' → (∀ s, s ≠ 4 → M' 91 s = M 91 s) → M' 91 4 = ((m + 1 : Nat) : Int) → (∀ i : Nat, i < m + 1 → M' 92 (i : Int) = insF P k x i ∧ M' 93 (i : Int) = insF T k t i) → Q M') → wX9_insertAt_28 Q (k : Int) x t (n + 1) ((k + n : Nat) : Int) M := by
  intro n
  induction n with
  | zero =>
    intro M hn h4 h1 h2 hk
    unfold wX9_insertAt_28
    refine ⟨(inRof ⟨by omega, by omega⟩), (inRof ⟨by omega, by omega⟩), ?_⟩
    rw [if_pos (by omega)]
    unfold wX9_insertAt_72
    refine ⟨⟨by omega, by omega⟩, hk _ ((FrS.u2.trans FrS.u3).trans FrS.u1) (fun s hs => by rw [up_nei hs, up_ne (by decide), up_ne (by decide)]) (by rw [up_eq, h4]; omega) (fun i hi' => ?_)⟩
    rw [up_ne (show 92 ≠ 91 by decide), up_ne (show 92 ≠ 93 by decide), up_ne (show 93 ≠ 91 by decide), up_at, up_at, up_ne (show 93 ≠ 92 by decide)]
    unfold insF
    by_cases c1 : i < k
    · have d : ¬ (i : Int) = (k : Int) := by omega
      rw [if_neg d, if_neg d, if_pos c1, if_pos c1]; exact h1 i (by omega)
    · rw [if_neg c1, if_neg c1]
      by_cases c2 : i = k
      · have d : (i : Int) = (k : Int) := by omega
        rw [if_pos d, if_pos d, if_pos c2, if_pos c2]; exact ⟨rfl, rfl⟩
      · have d : ¬ (i : Int) = (k : Int) := by omega
        rw [if_neg d, if_neg d, if_neg c2, if_neg c2]; exact h2 i (by omega) (by omega)
  | succ n ih =>
    intro M hn h4 h1 h2 hk
    unfold wX9_insertAt_28
    refine ⟨(inRof ⟨by omega, by omega⟩), (inRof ⟨by omega, by omega⟩), ?_⟩
    rw [if_neg (by omega)]
    have e1 := h1 (k + n) (by omega)
    rw [show ((k + (n + 1) : Nat) : Int) - 1 = ((k + n : Nat) : Int) by omega, show ((k + (n + 1) : Nat) : Int) + -1 = ((k + n : Nat) : Int) by omega, e1.1, e1.2]
    refine ⟨⟨by omega, by omega⟩, ⟨by omega, by omega⟩, ih _ (by omega) (by rw [up_ne (by decide), up_ne (by decide)]; exact h4) (fun i hi' => ?_) (fun i g1 g2 => ?_) (fun M' k1 k2 k3 k4 => hk M' ((FrS.u2.trans FrS.u3).trans k1) (fun s hs => by rw [k2 s hs, up_ne (by decide), up_ne (by decide)]) k3 k4)⟩
    · rw [up_ne (show 92 ≠ 93 by decide), up_nei (by omega), up_nei (by omega), up_ne (show 93 ≠ 92 by decide)]
      exact h1 i (by omega)
    · by_cases c : i = k + (n + 1)
      · subst c
        rw [up_ne (show 92 ≠ 93 by decide), up_eq, up_eq, show k + (n + 1) - 1 = k + n by omega]
        exact ⟨rfl, rfl⟩
      · rw [up_ne (show 92 ≠ 93 by decide), up_nei (by omega), up_nei (by omega), up_ne (show 93 ≠ 92 by decide)]
        exact h2 i (by omega) g2
theorem b_insAt {M : Mm} (h : SR M lo hi v l m P T) (hm : m < 96) (hk : k ≤ m) (hkv : ∀ M', FrS M M' → SR M' lo hi v l (m + 1) (insF P k x) (insF T k t) → kv M') : Bv (wX9_insertAt (k : Int) x t M) kv := by
  obtain ⟨⟨s0, s1, s2, s3, s4⟩, hp⟩ := h
  apply Bv.of; unfold wX9_insertAt
  rw [s4]
  refine ⟨(inRof ⟨by omega, by omega⟩), ?_⟩
  rw [if_pos (by omega)]
  refine ⟨(inRof ⟨by omega, by omega⟩), ?_⟩
  rw [if_neg (by omega), if_pos (by omega)]
  refine ⟨m - k + 1, ?_⟩
  have := l_insAt (Q := kv) (P := P) (T := T) (x := x) (t := t) (k := k) hm (m - k) M (by omega) s4 (fun i hi' => hp i (by omega)) (fun i g1 g2 => by omega) (fun M' k1 k2 k3 k4 => hkv M' k1 ⟨⟨by rw [k2 0 (by decide)]; exact s0, by rw [k2 1 (by decide)]; exact s1, by rw [k2 2 (by decide)]; exact s2, by rw [k2 3 (by decide)]; exact s3, k3⟩, k4⟩)
  rw [show ((k + (m - k) : Nat) : Int) = (m : Int) by omega] at this
  exact this
theorem l_insP {M : Mm} {Q : Mm → Prop} (hx : inR x) (h : SR M lo hi v l m P T) (hr : -1000 ≤ lo ∧ hi ≤ 5000) (w : WS lo hi m P T) (hm : m < 96) (hk : ∀ k : Nat, k ≤ m → (∀ i, i < k → P i ≤ x) → (∀ i, k ≤ i → i < m → x < P i) → Bv (wX9_insertAt (k : Int) x t M) Q) : ∀ n : Nat, n ≤ m → (∀ i, n ≤ i → i < m → x < P i) → wX9_insertByPlace_14 Q x t (n + 1) (n : Int) M := by
  intro n
  induction n with
  | zero =>
    intro hn h2
    unfold wX9_insertByPlace_14
    refine ⟨(inRof ⟨by omega, by omega⟩), ?_⟩
    rw [if_pos (by omega)]
    unfold wX9_insertByPlace_36
    exact hk 0 (by omega) (fun i hi' => by omega) h2
  | succ n ih =>
    intro hn h2
    unfold wX9_insertByPlace_14
    have hp := (h.2 n (by omega)).1
    have hw := w.1 n (by omega)
    refine ⟨(inRof ⟨by omega, by omega⟩), ?_⟩
    rw [if_neg (by omega), show ((n + 1 : Nat) : Int) - 1 = (n : Int) by omega, show ((n + 1 : Nat) : Int) + -1 = (n : Int) by omega, hp]
    refine ⟨⟨by omega, by omega⟩, (inRof ⟨by omega, by omega⟩), hx, ?_⟩
    by_cases c : P n ≤ x
    · rw [if_pos c]
      unfold wX9_insertByPlace_36
      refine hk (n + 1) hn (fun i hi' => ?_) h2
      by_cases e : i = n
      · subst e; exact c
      · have := w.2 i n (by omega) (by omega); omega
    · rw [if_neg c]
      refine ih (by omega) (fun i g1 g2 => ?_)
      by_cases e : i = n
      · subst e; omega
      · exact h2 i (by omega) g2
theorem b_insP {M : Mm} (h : SR M lo hi v l m P T) (hr : -1000 ≤ lo ∧ hi ≤ 5000) (w : WS lo hi m P T) (hm : m < 96) (hx : lo < x ∧ x ≤ 5000) (hlh : lo ≤ hi) (ht : 1 ≤ t) (hk : ∀ M' m' P' T', FrS M M' → SR M' lo hi v l m' P' T' → WS lo hi m' P' T' → m' ≤ m + 1 → (sm T m ≤ sm T' m' ∧ sm T' m' ≤ sm T m + t) → (∀ z, z ≤ hi → ev lo v l P' T' m' z = ev lo v l P T m z + t * max 0 (z - x)) → kv M') : Bv (wX9_insertByPlace x t M) kv := by
  apply Bv.of; unfold wX9_insertByPlace
  rw [h.1.2.1, h.1.2.2.2.2]
  refine ⟨(inRof ⟨by omega, by omega⟩), (inRof ⟨by omega, by omega⟩), ?_⟩
  by_cases c : x < hi
  · rw [if_pos c]
    refine ⟨m + 1, l_insP (inRof ⟨by omega, by omega⟩) h hr w hm (fun k hk' g1 g2 => ?_) m (Nat.le_refl _) (fun i g1 g2 => by omega)⟩
    refine b_insAt h hm hk' (fun M' f1 s1 => ?_)
    refine hk M' (m + 1) _ _ f1 s1 (WS_ins w ⟨hx.1, c⟩ ht hk' g1 g2) (by omega) ?_ (fun z _ => ev_ins hk')
    rw [sm_ins m hk']
    omega
  · rw [if_neg c]
    refine hk M m P T FrS.refl h w (by omega) (by omega) (fun z hz => ?_)
    rw [show max 0 (z - x) = 0 by omega]
    omega
theorem l_am54 {M : Mm} {Q : Mm → Prop} (h : SR M lo hi v l m P T) (hr : 0 ≤ lo ∧ hi ≤ 1000) (hw : WS lo hi m P T) (hm : m < 95) (hlh : lo ≤ hi) (hb : 0 ≤ b ∧ b ≤ 1000) (ht : 1 ≤ w) (hk : ∀ M' l' m' P' T', FrS M M' → SR M' lo hi v l' m' P' T' → WS lo hi m' P' T' → m' ≤ m + 1 → (l ≤ l' ∧ l' + sm T' m' ≤ l + sm T m + w) → (∀ z, lo ≤ z → z ≤ hi → ev lo v l' P' T' m' z = ev lo v l P T m z + (if lo < b then w * max 0 (z - b) else w * (z - lo))) → Q M') : wX9_addMiss_54 Q b w M := by
  unfold wX9_addMiss_54
  rw [h.1.1]
  refine ⟨(inRof ⟨by omega, by omega⟩), (inRof ⟨by omega, by omega⟩), ?_⟩
  by_cases c : lo < b
  · rw [if_pos c]
    refine b_insP h (by omega) hw (by omega) (by omega) hlh ht (fun M' m' P' T' f1 s1 w1 g1 g2 g3 => ?_)
    refine hk M' l m' P' T' f1 s1 w1 g1 (by omega) (fun z _ hz => ?_)
    rw [if_pos c]
    exact g3 z hz
  · rw [if_neg c]
    refine hk _ (l + w) m P T FrS.u1 ⟨⟨by rw [up_nei (by decide)]; exact h.1.1, by rw [up_nei (by decide)]; exact h.1.2.1, by rw [up_nei (by decide)]; exact h.1.2.2.1, by rw [up_eq, h.1.2.2.2.1], by rw [up_nei (by decide)]; exact h.1.2.2.2.2⟩, fun i hi' => by rw [up_ne (by decide), up_ne (by decide)]; exact h.2 i hi'⟩ hw (by omega) (by omega) (fun z _ _ => ?_)
    rw [if_neg c]
    unfold ev
    rw [Int.add_mul]
    omega
theorem b_addMiss {M : Mm} (h : SR M lo hi v l m P T) (hr : 0 ≤ lo ∧ hi ≤ 1000) (hw : WS lo hi m P T) (hm : m < 94) (hlh : lo ≤ hi) (hab : 0 ≤ a ∧ a ≤ b ∧ b ≤ 1000) (ht : 1 ≤ w) (hk : ∀ M' v' l' m' P' T', FrS M M' → SR M' lo hi v' l' m' P' T' → WS lo hi m' P' T' → m' ≤ m + 2 → (l - w ≤ l' ∧ l' + sm T' m' ≤ l + sm T m + w) → (∀ z, lo ≤ z → z ≤ hi → ev lo v' l' P' T' m' z = ev lo v l P T m z + w * dst z a b) → kv M') : Bv (wX9_addMiss a b w M) kv := by
  apply Bv.of; unfold wX9_addMiss
  rw [h.1.1, h.1.2.2.1]
  refine b_max (inRof ⟨by omega, by omega⟩) (inRof ⟨by omega, by omega⟩) (b_max (inRof ⟨by omega, by omega⟩) (inRof ⟨by omega, by omega⟩) ?_)
  rw [h.1.1, h.1.2.2.2.1]
  refine ⟨(inRof ⟨by omega, by omega⟩), (inRof ⟨by omega, by omega⟩), ?_⟩
  by_cases c : lo < a
  · rw [if_pos c]
    have s0 : SR (up (up M 91 2 (v + w * max 0 (max (a - lo) (lo - b)))) 91 3 (l - w)) lo hi (v + w * max 0 (max (a - lo) (lo - b))) (l - w) m P T := ⟨⟨by rw [up_nei (by decide), up_nei (by decide)]; exact h.1.1, by rw [up_nei (by decide), up_nei (by decide)]; exact h.1.2.1, by rw [up_nei (by decide), up_eq], up_eq, by rw [up_nei (by decide), up_nei (by decide)]; exact h.1.2.2.2.2⟩, fun i hi' => by rw [up_ne (by decide), up_ne (by decide), up_ne (by decide), up_ne (by decide)]; exact h.2 i hi'⟩
    refine b_insP s0 (by omega) hw (by omega) (by omega) hlh ht (fun M1 m1 P1 T1 f1 s1 w1 g1 g2 g3 => ?_)
    refine l_am54 s1 hr w1 (by omega) hlh (by omega) ht (fun M2 l2 m2 P2 T2 f2 s2 w2 d1 d2 d3 => ?_)
    refine hk M2 _ l2 m2 P2 T2 (((FrS.u1).trans FrS.u1).trans (f1.trans f2)) s2 w2 (by omega) (by omega) (fun z z1 z2 => ?_)
    rw [d3 z z1 z2, if_pos (by omega), g3 z z2]
    have e : w * dst z a b = w * max 0 (max (a - lo) (lo - b)) - w * (z - lo) + w * max 0 (z - a) + w * max 0 (z - b) := by
      rw [← Int.mul_sub, ← Int.mul_add, ← Int.mul_add]
      congr 1
      unfold dst
      omega
    rw [e]
    unfold ev
    rw [Int.sub_mul]
    omega
  · rw [if_neg c]
    have s0 : SR (up M 91 2 (v + w * max 0 (max (a - lo) (lo - b)))) lo hi (v + w * max 0 (max (a - lo) (lo - b))) l m P T := ⟨⟨by rw [up_nei (by decide)]; exact h.1.1, by rw [up_nei (by decide)]; exact h.1.2.1, up_eq, by rw [up_nei (by decide)]; exact h.1.2.2.2.1, by rw [up_nei (by decide)]; exact h.1.2.2.2.2⟩, fun i hi' => by rw [up_ne (by decide), up_ne (by decide)]; exact h.2 i hi'⟩
    refine l_am54 s0 hr hw (by omega) hlh (by omega) ht (fun M2 l2 m2 P2 T2 f2 s2 w2 d1 d2 d3 => ?_)
    refine hk M2 _ l2 m2 P2 T2 (FrS.u1.trans f2) s2 w2 (by omega) (by omega) (fun z z1 z2 => ?_)
    rw [d3 z z1 z2]
    by_cases c2 : lo < b
    · rw [if_pos c2]
      have e : w * dst z a b = w * max 0 (max (a - lo) (lo - b)) + w * max 0 (z - b) := by
        rw [← Int.mul_add]
        congr 1
        unfold dst
        omega
      rw [e]
      unfold ev
      omega
    · rw [if_neg c2]
      have e : w * dst z a b = w * max 0 (max (a - lo) (lo - b)) + w * (z - lo) := by
        rw [← Int.mul_add]
        congr 1
        unfold dst
        omega
      rw [e]
      unfold ev
      omega
end Xs
