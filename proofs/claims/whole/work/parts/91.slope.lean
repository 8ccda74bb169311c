/-! ===== slopes, pure ===== -/
def sm (φ : Nat → Int) : Nat → Int
  | 0 => 0
  | n + 1 => sm φ n + φ n
def insF (P : Nat → Int) (k : Nat) (x : Int) (i : Nat) : Int := if i < k then P i else if i = k then x else P (i - 1)
def ev (lo v l : Int) (P T : Nat → Int) (m : Nat) (z : Int) : Int := v + l * (z - lo) + sm (fun i => T i * max 0 (z - P i)) m
def slp (l : Int) (P T : Nat → Int) (m : Nat) (z : Int) : Int := l + sm (fun i => if P i ≤ z then T i else 0) m
def dst (z a b : Int) : Int := max 0 (max (a - z) (z - b))
def Um (lo hi : Int) (f : Int → Int) (t : Int) : Prop := (lo ≤ t ∧ t ≤ hi) ∧ (∀ z, lo ≤ z → z < t → f (z + 1) < f z) ∧ ∀ z, t ≤ z → z < hi → f z ≤ f (z + 1)
section Sl
variable {φ ψ P T : Nat → Int} {k m n i j : Nat} {c x y z lo hi v l t w a b low high : Int}
theorem sm_congr : ∀ n : Nat, (∀ i, i < n → φ i = ψ i) → sm φ n = sm ψ n
  | 0, _ => rfl
  | n + 1, h => by
    show sm φ n + φ n = sm ψ n + ψ n
    rw [sm_congr n (fun i hi => h i (by omega)), h n (by omega)]
theorem sm_le : ∀ n : Nat, (∀ i, i < n → φ i ≤ ψ i) → sm φ n ≤ sm ψ n
  | 0, _ => Int.le_refl _
  | n + 1, h => by
    show sm φ n + φ n ≤ sm ψ n + ψ n
    have := sm_le n (fun i hi => h i (by omega))
    have := h n (by omega)
    omega
theorem sm_mono (h : ∀ i, i < m → 0 ≤ φ i) : ∀ j : Nat, i ≤ j → j ≤ m → sm φ i ≤ sm φ j
  | 0, h1, _ => by rw [show i = 0 by omega]; exact Int.le_refl _
  | j + 1, h1, h2 => by
    by_cases e : i = j + 1
    · rw [e]; exact Int.le_refl _
    · have := sm_mono h j (by omega) (by omega)
      have := h j (by omega)
      show sm φ i ≤ sm φ j + φ j
      omega
theorem sm_shift : ∀ n : Nat, sm φ (k + n) = sm φ k + sm (fun i => φ (k + i)) n
  | 0 => by show sm φ k = sm φ k + 0; omega
  | n + 1 => by
    have := sm_shift n
    show sm φ (k + n) + φ (k + n) = sm φ k + (sm (fun i => φ (k + i)) n + φ (k + n))
    omega
theorem sm_zero : ∀ n : Nat, (∀ i, i < n → φ i = 0) → sm φ n = 0
  | 0, _ => rfl
  | n + 1, h => by
    show sm φ n + φ n = 0
    rw [sm_zero n (fun i hi => h i (by omega)), h n (by omega)]; rfl
theorem sm_ins_lo : ∀ j : Nat, j ≤ k → sm (insF φ k c) j = sm φ j
  | 0, _ => rfl
  | j + 1, h => by
    show sm (insF φ k c) j + insF φ k c j = sm φ j + φ j
    rw [sm_ins_lo j (by omega)]
    unfold insF
    rw [if_pos (by omega)]
theorem sm_ins : ∀ n : Nat, k ≤ n → sm (insF φ k c) (n + 1) = sm φ n + c
  | n, h => by
    by_cases e : k = n
    · subst e
      show sm (insF φ k c) k + insF φ k c k = _
      rw [sm_ins_lo k (Nat.le_refl _)]
      unfold insF
      rw [if_neg (by omega), if_pos rfl]
    · obtain ⟨n', e'⟩ : ∃ n', n = n' + 1 := ⟨n - 1, by omega⟩
      subst e'
      have := sm_ins n' (by omega)
      show sm (insF φ k c) (n' + 1) + insF φ k c (n' + 1) = sm φ n' + φ n' + c
      rw [this]
      unfold insF
      rw [if_neg (by omega), if_neg (by omega), show n' + 1 - 1 = n' by omega]
      omega
theorem ins_mul : (fun i => insF T k t i * max 0 (z - insF P k x i)) = insF (fun i => T i * max 0 (z - P i)) k (t * max 0 (z - x)) := by
  funext i
  unfold insF
  by_cases c1 : i < k
  · rw [if_pos c1, if_pos c1, if_pos c1]
  · rw [if_neg c1, if_neg c1, if_neg c1]
    by_cases c2 : i = k
    · rw [if_pos c2, if_pos c2, if_pos c2]
    · rw [if_neg c2, if_neg c2, if_neg c2]
theorem ev_ins (hk : k ≤ m) : ev lo v l (insF P k x) (insF T k t) (m + 1) z = ev lo v l P T m z + t * max 0 (z - x) := by
  unfold ev
  rw [ins_mul, sm_ins m hk]
  omega
theorem ev_succ : ev lo v l P T m (z + 1) = ev lo v l P T m z + slp l P T m z := by
  have key : ∀ m : Nat, sm (fun i => T i * max 0 (z + 1 - P i)) m = sm (fun i => T i * max 0 (z - P i)) m + sm (fun i => if P i ≤ z then T i else 0) m := by
    intro m
    induction m with
    | zero => rfl
    | succ m ih =>
      show sm (fun i => T i * max 0 (z + 1 - P i)) m + T m * max 0 (z + 1 - P m) = sm (fun i => T i * max 0 (z - P i)) m + T m * max 0 (z - P m) + (sm (fun i => if P i ≤ z then T i else 0) m + (if P m ≤ z then T m else 0))
      rw [ih]
      by_cases c : P m ≤ z
      · rw [if_pos c, show max 0 (z + 1 - P m) = max 0 (z - P m) + 1 by omega, Int.mul_add, Int.mul_one]
        omega
      · rw [if_neg c, show max 0 (z + 1 - P m) = 0 by omega, show max 0 (z - P m) = 0 by omega]
        omega
  unfold ev slp
  rw [key m, show z + 1 - lo = (z - lo) + 1 by omega, Int.mul_add, Int.mul_one]
  omega
theorem slp_le (hi : i ≤ m) (hT : ∀ k, k < m → 0 ≤ T k) (hz : ∀ k, i ≤ k → k < m → z < P k) : slp l P T m z ≤ l + sm T i := by
  unfold slp
  have e := sm_shift (φ := fun i => if P i ≤ z then T i else 0) (k := i) (m - i)
  rw [show i + (m - i) = m by omega] at e
  have e2 : sm (fun k => (fun i => if P i ≤ z then T i else 0) (i + k)) (m - i) = 0 := sm_zero _ (fun k hk => by
    show (if P (i + k) ≤ z then T (i + k) else 0) = 0
    have := hz (i + k) (by omega) (by omega)
    rw [if_neg (by omega)])
  have e3 : sm (fun i => if P i ≤ z then T i else 0) i ≤ sm T i := sm_le _ (fun k hk => by
    show (if P k ≤ z then T k else 0) ≤ T k
    have := hT k (by omega)
    split <;> omega)
  rw [e, e2]
  omega
theorem slp_ge (hi : i ≤ m) (hT : ∀ k, k < m → 0 ≤ T k) (hz : ∀ k, k < i → P k ≤ z) : l + sm T i ≤ slp l P T m z := by
  unfold slp
  have e : sm (fun i => if P i ≤ z then T i else 0) i = sm T i := sm_congr _ (fun k hk => by
    show (if P k ≤ z then T k else 0) = T k
    rw [if_pos (hz k hk)])
  have := sm_mono (φ := fun i => if P i ≤ z then T i else 0) (m := m) (i := i) (fun k hk => by
    show 0 ≤ (if P k ≤ z then T k else 0)
    have := hT k hk
    split <;> omega) m hi (Nat.le_refl _)
  omega
theorem um_ev (h : lo ≤ t ∧ t ≤ hi) (h1 : ∀ z, lo ≤ z → z < t → slp l P T m z < 0) (h2 : ∀ z, t ≤ z → z < hi → 0 ≤ slp l P T m z) : Um lo hi (ev lo v l P T m) t := by
  refine ⟨h, fun z a b => ?_, fun z a b => ?_⟩
  · have := h1 z a b
    rw [ev_succ]; omega
  · have := h2 z a b
    rw [ev_succ]; omega
theorem Um.inc {f : Int → Int} (h : Um lo hi f t) : ∀ (n : Nat) (x : Int), t ≤ x → x + (n : Int) ≤ hi → f x ≤ f (x + (n : Int))
  | 0, x, h1, h2 => by rw [show x + ((0 : Nat) : Int) = x by omega]; exact Int.le_refl _
  | n + 1, x, h1, h2 => by
    have i1 := Um.inc h n x h1 (by omega)
    have i2 := h.2.2 (x + (n : Int)) (by omega) (by omega)
    rw [show x + ((n + 1 : Nat) : Int) = x + (n : Int) + 1 by omega]
    omega
theorem Um.dec {f : Int → Int} (h : Um lo hi f t) : ∀ (n : Nat) (x : Int), lo ≤ x → x + (n : Int) ≤ t → f (x + (n : Int)) ≤ f x ∧ (n ≠ 0 → f (x + (n : Int)) < f x)
  | 0, x, h1, h2 => by rw [show x + ((0 : Nat) : Int) = x by omega]; exact ⟨Int.le_refl _, fun z => absurd rfl z⟩
  | n + 1, x, h1, h2 => by
    have i1 := Um.dec h n x h1 (by omega)
    have i2 := h.2.1 (x + (n : Int)) (by omega) (by omega)
    rw [show x + ((n + 1 : Nat) : Int) = x + (n : Int) + 1 by omega]
    have := i1.1
    omega
theorem Um.up {f : Int → Int} (h : Um lo hi f t) (h1 : t ≤ x) (h2 : x ≤ y) (h3 : y ≤ hi) : f x ≤ f y := by
  have := h.inc (y - x).toNat x h1 (by omega)
  rw [show x + (((y - x).toNat : Nat) : Int) = y by omega] at this
  exact this
theorem Um.down {f : Int → Int} (h : Um lo hi f t) (h1 : lo ≤ x) (h2 : x < y) (h3 : y ≤ t) : f y < f x := by
  have := (h.dec (y - x).toNat x h1 (by omega)).2 (by omega)
  rw [show x + (((y - x).toNat : Nat) : Int) = y by omega] at this
  exact this
theorem Um.least {f : Int → Int} (h : Um lo hi f t) (h1 : lo ≤ x) (h2 : x ≤ hi) : f t ≤ f x := by
  by_cases c : t ≤ x
  · exact h.up (Int.le_refl _) c h2
  · have := h.down h1 (by omega) (Int.le_refl _)
    omega
theorem Um.mn {f : Int → Int} (h : Um lo hi f t) : mnI f lo hi = f t := mnI_eq h.1.1 h.1.2 rfl (fun x h1 h2 => h.least h1 h2)
theorem Um.congr {f g : Int → Int} (h : Um lo hi f t) (e : ∀ z, lo ≤ z → z ≤ hi → f z = g z) : Um lo hi g t := by
  have a1 := h.1.1
  have a2 := h.1.2
  refine ⟨h.1, fun z h1 h2 => ?_, fun z h1 h2 => ?_⟩
  · rw [← e z h1 (by omega), ← e (z + 1) (by omega) (by omega)]; exact h.2.1 z h1 h2
  · rw [← e z (by omega) (by omega), ← e (z + 1) (by omega) (by omega)]; exact h.2.2 z h1 h2
/-! a spread -/
def dnF (lo v : Int) (P T : Nat → Int) (j : Nat) (y : Int) : Int := v + sm (fun i => T i * (lo - min y (P i))) j
def upF (P T : Nat → Int) (j m : Nat) (y : Int) : Int := sm (fun i => T (j + i) * max 0 (y - P (j + i))) (m - j)
theorem dn_form : ∀ j : Nat, sm (fun i => T i * max 0 (y - P i)) j = sm (fun i => T i * (lo - min y (P i))) j + sm T j * (y - lo)
  | 0 => by show (0 : Int) = 0 + 0 * (y - lo); omega
  | j + 1 => by
    have ih := dn_form j
    show sm (fun i => T i * max 0 (y - P i)) j + T j * max 0 (y - P j) = sm (fun i => T i * (lo - min y (P i))) j + T j * (lo - min y (P j)) + (sm T j + T j) * (y - lo)
    rw [ih, show max 0 (y - P j) = (lo - min y (P j)) + (y - lo) by omega, Int.mul_add, Int.add_mul]
    omega
theorem ev_form (hj : j ≤ m) (h0 : l + sm T j = 0) : ev lo v l P T m y = dnF lo v P T j y + upF P T j m y := by
  unfold ev dnF upF
  have e := sm_shift (φ := fun i => T i * max 0 (y - P i)) (k := j) (m - j)
  rw [show j + (m - j) = m by omega] at e
  rw [e, dn_form (lo := lo) j]
  have e2 : l * (y - lo) = -(sm T j * (y - lo)) := by
    rw [show l = -(sm T j) by omega, Int.neg_mul]
  rw [e2]
  omega
theorem ev_spread (hlh : low ≤ high) (hj : j ≤ m) (hT : ∀ i, i < m → 0 ≤ T i) (h0 : l + sm T j = 0) (ht : lo ≤ t ∧ t ≤ hi) (hf : ∀ i, i < j → P i ≤ t) (hr : ∀ i, j ≤ i → i < m → t ≤ P i) (hz : lo + low ≤ z ∧ z ≤ hi + high) : ev (lo + low) v l (fun i => if i < j then P i + low else P i + high) T m z = mnI (ev lo v l P T m) (max lo (z - high)) (min hi (z - low)) := by
  have e1 : ev (lo + low) v l (fun i => if i < j then P i + low else P i + high) T m z = dnF lo v P T j (z - low) + upF P T j m (z - high) := by
    rw [ev_form (lo := lo + low) hj h0]
    unfold dnF upF
    have a1 : sm (fun i => T i * (lo + low - min z ((fun i => if i < j then P i + low else P i + high) i))) j = sm (fun i => T i * (lo - min (z - low) (P i))) j := sm_congr _ (fun i hi => by
      show T i * (lo + low - min z (if i < j then P i + low else P i + high)) = T i * (lo - min (z - low) (P i))
      rw [if_pos hi, show lo + low - min z (P i + low) = lo - min (z - low) (P i) by omega])
    have a2 : sm (fun i => T (j + i) * max 0 (z - (fun i => if i < j then P i + low else P i + high) (j + i))) (m - j) = sm (fun i => T (j + i) * max 0 (z - high - P (j + i))) (m - j) := sm_congr _ (fun i hi => by
      show T (j + i) * max 0 (z - (if j + i < j then P (j + i) + low else P (j + i) + high)) = T (j + i) * max 0 (z - high - P (j + i))
      rw [if_neg (by omega), show z - (P (j + i) + high) = z - high - P (j + i) by omega])
    rw [a1, a2]
  have dmono : ∀ y y', y ≤ y' → dnF lo v P T j y' ≤ dnF lo v P T j y := by
    intro y y' h
    unfold dnF
    have := sm_le (φ := fun i => T i * (lo - min y' (P i))) (ψ := fun i => T i * (lo - min y (P i))) j (fun i hi => Int.mul_le_mul_of_nonneg_left (by omega) (hT i (by omega)))
    omega
  have dflat : ∀ y y', t ≤ y → t ≤ y' → dnF lo v P T j y = dnF lo v P T j y' := by
    intro y y' h h'
    unfold dnF
    rw [sm_congr (φ := fun i => T i * (lo - min y (P i))) (ψ := fun i => T i * (lo - min y' (P i))) j (fun i hi => by
      show T i * (lo - min y (P i)) = T i * (lo - min y' (P i))
      have := hf i hi
      rw [show min y (P i) = P i by omega, show min y' (P i) = P i by omega])]
  have umono : ∀ y y', y ≤ y' → upF P T j m y ≤ upF P T j m y' := by
    intro y y' h
    unfold upF
    exact sm_le _ (fun i hi => Int.mul_le_mul_of_nonneg_left (by omega) (hT (j + i) (by omega)))
  have uzero : ∀ y, y ≤ t → upF P T j m y = 0 := by
    intro y h
    unfold upF
    refine sm_zero _ (fun i hi => ?_)
    have := hr (j + i) (by omega) (by omega)
    show T (j + i) * max 0 (y - P (j + i)) = 0
    rw [show max 0 (y - P (j + i)) = 0 by omega, Int.mul_zero]
  rw [e1]
  refine (mnI_eq (y := max (z - high) (min t (z - low))) (by omega) (by omega) ?_ (fun x x1 x2 => ?_)).symm
  · rw [ev_form hj h0]
    by_cases c1 : t ≤ z - high
    · rw [show max (z - high) (min t (z - low)) = z - high by omega, dflat (z - high) (z - low) c1 (by omega)]
    · by_cases c2 : t ≤ z - low
      · rw [show max (z - high) (min t (z - low)) = t by omega, dflat t (z - low) (by omega) c2, uzero t (by omega), uzero (z - high) (by omega)]
      · rw [show max (z - high) (min t (z - low)) = z - low by omega, uzero (z - low) (by omega), uzero (z - high) (by omega)]
  · rw [ev_form hj h0]
    have := dmono x (z - low) (by omega)
    have := umono (z - high) x (by omega)
    omega
/-! a cut -/
theorem ev_from : ev c (v + l * (c - lo)) l P T m z = ev lo v l P T m z := by
  unfold ev
  have : l * (z - lo) = l * (c - lo) + l * (z - c) := by rw [← Int.mul_add, show c - lo + (z - c) = z - lo by omega]
  omega
theorem ev_pass (hk : k < m) (hz : P k ≤ z) : ev (P k) (v + l * (P k - lo)) (l + T k) (fun i => P (k + 1 + i)) (fun i => T (k + 1 + i)) (m - (k + 1)) z = ev lo v l (fun i => P (k + i)) (fun i => T (k + i)) (m - k) z := by
  show v + l * (P k - lo) + (l + T k) * (z - P k) + sm (fun i => T (k + 1 + i) * max 0 (z - P (k + 1 + i))) (m - (k + 1)) = v + l * (z - lo) + sm (fun i => T (k + i) * max 0 (z - P (k + i))) (m - k)
  have e := sm_shift (φ := fun i => T (k + i) * max 0 (z - P (k + i))) (k := 1) (m - (k + 1))
  rw [show 1 + (m - (k + 1)) = m - k by omega] at e
  have e1 : sm (fun i => T (k + i) * max 0 (z - P (k + i))) 1 = T k * (z - P k) := by
    show 0 + T (k + 0) * max 0 (z - P (k + 0)) = _
    rw [show k + 0 = k by omega, show max 0 (z - P k) = z - P k by omega]
    omega
  have e2 : sm (fun i => (fun i => T (k + i) * max 0 (z - P (k + i))) (1 + i)) (m - (k + 1)) = sm (fun i => T (k + 1 + i) * max 0 (z - P (k + 1 + i))) (m - (k + 1)) := sm_congr _ (fun i hi => by
    show T (k + (1 + i)) * max 0 (z - P (k + (1 + i))) = T (k + 1 + i) * max 0 (z - P (k + 1 + i))
    rw [show k + (1 + i) = k + 1 + i by omega])
  have e3 : l * (z - lo) = l * (P k - lo) + l * (z - P k) := by rw [← Int.mul_add, show P k - lo + (z - P k) = z - lo by omega]
  rw [e, e1, e2, e3, Int.add_mul]
  omega
theorem ev_drop (hm : n ≤ m) (hz : ∀ i, n ≤ i → i < m → z ≤ P i) : ev lo v l P T n z = ev lo v l P T m z := by
  unfold ev
  have e := sm_shift (φ := fun i => T i * max 0 (z - P i)) (k := n) (m - n)
  rw [show n + (m - n) = m by omega] at e
  have e2 : sm (fun i => (fun i => T i * max 0 (z - P i)) (n + i)) (m - n) = 0 := sm_zero _ (fun i hi => by
    show T (n + i) * max 0 (z - P (n + i)) = 0
    have := hz (n + i) (by omega) (by omega)
    rw [show max 0 (z - P (n + i)) = 0 by omega, Int.mul_zero])
  rw [e, e2]
  omega
end Sl
