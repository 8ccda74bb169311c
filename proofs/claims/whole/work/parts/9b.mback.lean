/-! ===== the model's costs behind ===== -/
def AR (A : Int → Int) (t : Dp) : Prop := ∀ z : Int, 0 ≤ z → z ≤ 1000 → A z = if t.1 ≤ z ∧ z ≤ t.2.1 then t.2.2 z else 1000000000
def mvd (t : Dp) : Int := if t.2.1 < t.1 then 1000000000 else lst t
def a2 (x y : Int) : Int := if x < 1000000000 then (if y < 1000000000 then x + y else 1000000000) else 1000000000
theorem a2_far {x : Int} : a2 x 1000000000 = 1000000000 := by
  unfold a2
  rw [if_neg (show ¬ (1000000000 : Int) < 1000000000 by omega)]
  by_cases c : x < 1000000000
  · rw [if_pos c]
  · rw [if_neg c]
section Mb
variable {kv : Mm → Prop} {kk : Int → Mm → Prop} {bb : Mm} {A : Int → Int} {t : Dp} {K C a b low high cp q r z : Int} {g : Int → Int} {B : Int → Int} {s : Int} {S : Nat}
theorem AR.range (h : AR A t) (hb : Bnd t K) (hK : K < 1000000000) : ∀ z, 0 ≤ z → z ≤ 1000 → 0 ≤ A z ∧ A z ≤ 1000000000 := by
  intro z z1 z2
  rw [h z z1 z2]
  by_cases c : t.1 ≤ z ∧ z ≤ t.2.1
  · rw [if_pos c]; have := hb.2.2 z c.1 c.2; omega
  · rw [if_neg c]; omega
theorem AR.lo (h : AR A t) (hb : Bnd t K) (hK : K < 1000000000) : loR A 1001 = mvd t := by
  obtain ⟨l1, l2, l3⟩ := loR_spec (A := A) 1001
  generalize loR A 1001 = r at *
  have b1 := hb.1
  have b2 := hb.2.1
  unfold mvd
  by_cases e : t.2.1 < t.1
  · rw [if_pos e]
    rcases l3 with l3 | ⟨z, z1, z2, z3⟩
    · exact l3
    · rw [h z z1 (by omega), if_neg (by omega)] at z3; exact z3.symm
  · rw [if_neg e]
    obtain ⟨⟨y, y1, y2, y3⟩, hm⟩ := mnI_spec (f := t.2.2) (a := t.1) (b := t.2.1) (by omega)
    have hy := hb.2.2 y y1 y2
    have ly := l2 y (by omega) (by omega)
    rw [h y (by omega) (by omega), if_pos ⟨y1, y2⟩] at ly
    have y3 : t.2.2 y = lst t := y3
    rcases l3 with l3 | ⟨z, z1, z2, z3⟩
    · omega
    · rw [h z z1 (by omega)] at z3
      by_cases c : t.1 ≤ z ∧ z ≤ t.2.1
      · rw [if_pos c] at z3
        have hm : lst t ≤ t.2.2 z := hm z c.1 c.2
        omega
      · rw [if_neg c] at z3; omega
theorem RW.val (h : AR A t) (hb : Bnd t K) (hK : K < 1000000000) (hr : RW A a b z r) (hz : 0 ≤ z ∧ z ≤ 1000) : r = if max t.1 (z + a) ≤ min t.2.1 (z + b) then mnI t.2.2 (max t.1 (z + a)) (min t.2.1 (z + b)) else 1000000000 := by
  have b1 := hb.1
  have b2 := hb.2.1
  by_cases c : max t.1 (z + a) ≤ min t.2.1 (z + b)
  · rw [if_pos c]
    obtain ⟨⟨y, y1, y2, y3⟩, hm⟩ := mnI_spec (f := t.2.2) c
    have hy := hb.2.2 y (by omega) (by omega)
    have ly := hr.1 y (by omega) (by omega) (by omega) (by omega)
    rw [h y (by omega) (by omega), if_pos (by omega)] at ly
    rcases hr.2 with e | ⟨x, x1, x2, x3⟩
    · omega
    · rw [h x x1.1 x1.2] at x3
      by_cases c2 : t.1 ≤ x ∧ x ≤ t.2.1
      · rw [if_pos c2] at x3
        have := hm x (by omega) (by omega)
        omega
      · rw [if_neg c2] at x3; omega
  · rw [if_neg c]
    rcases hr.2 with e | ⟨x, x1, x2, x3⟩
    · exact e
    · rw [h x x1.1 x1.2] at x3
      by_cases c2 : t.1 ≤ x ∧ x ≤ t.2.1
      · omega
      · rw [if_neg c2] at x3; exact x3.symm
theorem AR_free {A' : Int → Int} (hb : Bnd t K) (hg : ∀ z, 0 ≤ z → z ≤ 1000 → 0 ≤ g z ∧ g z ≤ C) (hK : K < 1000000000 ∧ C < 1000000000) (hlh : low ≤ high) (h : ∀ z, 0 ≤ z → z ≤ 1000 → A' z = a2 (if z ≤ cp then g z else 1000000000) (if max t.1 (z - high) ≤ min t.2.1 (z - low) then mnI t.2.2 (max t.1 (z - high)) (min t.2.1 (z - low)) else 1000000000)) : AR A' (adc (stp t low high cp 0) g) := by
  intro z z1 z2
  rw [h z z1 z2]
  have hgz := hg z z1 z2
  unfold stp
  by_cases e : t.2.1 < t.1
  · rw [if_pos e, if_neg (show ¬ max t.1 (z - high) ≤ min t.2.1 (z - low) by omega)]
    have : a2 (if z ≤ cp then g z else 1000000000) 1000000000 = 1000000000 := a2_far
    rw [this, if_neg]
    show ¬ (t.1 ≤ z ∧ z ≤ t.2.1)
    omega
  · rw [if_neg e, if_pos rfl]
    show a2 _ _ = if max (t.1 + low) 0 ≤ z ∧ z ≤ min (t.2.1 + high) cp then mnI t.2.2 (max t.1 (z - high)) (min t.2.1 (z - low)) + g z else 1000000000
    by_cases c1 : z ≤ cp
    · rw [if_pos c1]
      by_cases c2 : max t.1 (z - high) ≤ min t.2.1 (z - low)
      · obtain ⟨⟨y, y1, y2, y3⟩, -⟩ := mnI_spec (f := t.2.2) c2
        have hy := hb.2.2 y (by omega) (by omega)
        rw [if_pos c2, if_pos (by omega)]
        unfold a2
        rw [if_pos (by omega), if_pos (by omega)]
        omega
      · rw [if_neg c2, if_neg (by omega)]
        unfold a2
        rw [if_neg (show ¬ (1000000000 : Int) < 1000000000 by omega)]
        split <;> rfl
    · rw [if_neg c1, if_neg (show ¬ (max (t.1 + low) 0 ≤ z ∧ z ≤ min (t.2.1 + high) cp) by omega)]
      unfold a2
      rw [if_neg (show ¬ (1000000000 : Int) < 1000000000 by omega)]
theorem AR_cut {A' : Int → Int} (hb : Bnd t K) (hg : ∀ z, 0 ≤ z → z ≤ 1000 → 0 ≤ g z ∧ g z ≤ C) (hK : K < 1000000000 ∧ C < 1000000000) (hq : q ≠ 0) (h : ∀ z, 0 ≤ z → z ≤ 1000 → A' z = a2 (if z ≤ cp then g z else 1000000000) (mvd t)) : AR A' (adc (stp t low high cp q) g) := by
  intro z z1 z2
  rw [h z z1 z2]
  have hgz := hg z z1 z2
  unfold stp mvd
  by_cases e : t.2.1 < t.1
  · rw [if_pos e, if_pos e]
    have : a2 (if z ≤ cp then g z else 1000000000) 1000000000 = 1000000000 := a2_far
    rw [this, if_neg]
    show ¬ (t.1 ≤ z ∧ z ≤ t.2.1)
    omega
  · rw [if_neg e, if_neg e, if_neg hq]
    have hl := hb.least (by omega)
    show a2 _ _ = if 0 ≤ z ∧ z ≤ cp then lst t + g z else 1000000000
    by_cases c1 : z ≤ cp
    · rw [if_pos c1, if_pos ⟨z1, c1⟩]
      unfold a2
      rw [if_pos (by omega), if_pos (by omega)]
      omega
    · rw [if_neg c1, if_neg (fun y => c1 y.2)]
      unfold a2
      rw [if_neg (show ¬ (1000000000 : Int) < 1000000000 by omega)]
theorem b_adds2 {M : Mm} {x y : Int} (hx : inR x) (hy : inR y) (hk : kk (a2 x y) M) : Bd (wX12_adds2 x y M) kk := by
  apply Bd.of; unfold wX12_adds2
  unfold a2 at hk
  refine ⟨hx, ?_⟩
  by_cases c : x < 1000000000
  · rw [if_pos c]
    rw [if_pos c] at hk
    refine ⟨hy, ?_⟩
    by_cases c2 : y < 1000000000
    · rw [if_pos c2]
      rw [if_pos c2] at hk
      exact hk
    · rw [if_neg c2]
      rw [if_neg c2] at hk
      exact hk
  · rw [if_neg c]
    rw [if_neg c] at hk
    exact hk
theorem CM.range {M : Mm} (h : BkR bb B) (hS : Lgs B s S) (hc : CM M B s S) {d : Nat} (hd : d < 120) (hz : 0 ≤ z ∧ z ≤ 1000) : inR (M 117 (1001 * (d : Int) + z)) := by
  have cr := co_range (z := z) (d := d) h hS hz
  have pl := pcB_le (p := onp B S (d : Int)) 24
  rw [hc d hd z hz.1 hz.2]
  by_cases c : z ≤ Cp B s d
  · rw [if_pos c]; exact (inRof ⟨by omega, by omega⟩)
  · rw [if_neg c]; exact (inRl (by decide))
theorem l_m116 {Q : Int → Mm → Prop} {k31 : Int → Mm → Prop} {d : Nat} {v4 : Int} {val : Int → Int} (hs : inR s) (hd : d < 120) (h : BkR bb B) (hS : Lgs B s S) (hv : ∀ z, 0 ≤ z → z ≤ 1000 → inR (val z)) : ∀ (k i : Nat) (M : Mm), i + k = 1001 → M 103 = B → CM M B s S → ((d = 119 ∧ ∀ z, val z = v4) ∨ (d < 119 ∧ left B s ((d : Int) + 1) = -1 ∧ ∀ z, 0 ≤ z → z ≤ 1000 → M 119 z = val z) ∨ (d < 119 ∧ left B s ((d : Int) + 1) ≠ -1 ∧ ∀ z, val z = v4)) → (∀ z : Int, 0 ≤ z → z < (i : Int) → M 118 (1001 * (d : Int) + z) = a2 (M 117 (1001 * (d : Int) + z)) (val z)) → (∀ M' : Mm, (∀ c : Nat, c ≠ 118 → M' c = M c) → (∀ x : Int, x < 1001 * (d : Int) ∨ 1001 * (d : Int) + 1000 < x → M' 118 x = M 118 x) → (∀ z : Int, 0 ≤ z → z ≤ 1000 → M' 118 (1001 * (d : Int) + z) = a2 (M 117 (1001 * (d : Int) + z)) (val z)) → k31 ((d : Int) + -1) M') → wX12_miss_116 Q k31 s (d : Int) v4 (k + 1) (i : Int) M := by
  intro k
  induction k with
  | zero =>
    intro i M hi hB hc hw h1 hk
    unfold wX12_miss_116
    refine ⟨(inRof ⟨by omega, by omega⟩), ?_⟩
    rw [if_neg (by omega)]
    exact hk M (fun _ _ => rfl) (fun _ _ => rfl) (fun z z1 z2 => h1 z z1 (by omega))
  | succ k ih =>
    intro i M hi hB hc hw h1 hk
    have cr := hc.range h hS hd (z := (i : Int)) (by omega)
    have hvi := hv (i : Int) (by omega) (by omega)
    unfold wX12_miss_116
    refine ⟨(inRof ⟨by omega, by omega⟩), ?_⟩
    rw [if_pos (by omega)]
    refine ⟨⟨by omega, by omega⟩, (inRof ⟨by omega, by omega⟩), ?_⟩
    have go : ∀ x : Int, x = a2 (M 117 (1001 * (d : Int) + (i : Int))) (val (i : Int)) → wX12_miss_116 Q k31 s (d : Int) v4 (k + 1) ((i : Int) + 1) (up M 118 (1001 * (d : Int) + (i : Int)) x) := by
      intro x hx
      refine ih (i + 1) _ (by omega) (by rw [up_cell (by decide)]; exact hB) (fun e he y y1 y2 => by rw [up_ne (by decide)]; exact hc e he y y1 y2) (by rw [up_cell (show 119 ≠ 118 by decide)]; exact hw) (fun y y1 y2 => ?_) (fun M' k1 k2 k3 => hk M' (fun c hc => by rw [k1 c hc, up_cell hc]) (fun y hy => by rw [k2 y hy, up_nei (by omega)]) (fun y y1 y2 => by rw [k3 y y1 y2, up_ne (by decide)]))
      rw [up_ne (show 117 ≠ 118 by decide)]
      by_cases c : y = (i : Int)
      · rw [c, up_eq]; exact hx
      · rw [up_nei (by omega)]; exact h1 y y1 (by omega)
    rcases hw with ⟨w1, w2⟩ | ⟨w1, w2, w3⟩ | ⟨w1, w2, w3⟩
    · rw [if_pos (by omega)]
      have ev : v4 = val (i : Int) := (w2 _).symm
      rw [ev]
      rw [ev] at go
      exact b_adds2 cr hvi (go _ rfl)
    · rw [if_neg (by omega)]
      refine b_left (by rw [hB]; exact h) hs (inRof ⟨by omega, by omega⟩) ?_
      rw [hB, w2]
      refine ⟨(inRl (by decide)), ?_⟩
      rw [if_pos rfl, w3 _ (by omega) (by omega)]
      exact ⟨⟨by omega, by omega⟩, b_adds2 cr hvi (go _ rfl)⟩
    · rw [if_neg (by omega)]
      have lr := left_range (s := s) (d := (d : Int) + 1) h
      refine b_left (by rw [hB]; exact h) hs (inRof ⟨by omega, by omega⟩) ?_
      rw [hB]
      refine ⟨(inRof ⟨by omega, by omega⟩), ?_⟩
      rw [if_neg w2]
      have ev : v4 = val (i : Int) := (w3 _).symm
      rw [ev]
      rw [ev] at go
      exact b_adds2 cr hvi (go _ rfl)
def BWm (M : Mm) (B : Int → Int) (s : Int) (S d0 : Nat) : Prop := ∀ d : Nat, d0 ≤ d → d < 120 → AR (fun z => M 118 (1001 * (d : Int) + z)) (bwB B s S (119 - d))
theorem bw_K (h : BkR bb B) (hS : Lgs B s S) {k : Nat} (hk : k ≤ 119) : Bnd (bwB B s S k) 2400000 := by
  have hb := bw_bnd (s := s) h hS k hk
  have nl := nUn_le (B := B) (S := S) (a := 119 - k) (e := 119)
  exact ⟨hb.1, hb.2.1, fun z z1 z2 => by have := hb.2.2 z z1 z2; omega⟩
theorem fw_K (h : BkR bb B) (hS : Lgs B s S) {e k : Nat} {top : Int} (ht : top ≤ 1000) : Bnd (fwB B s S e top k) 2400000 := by
  have hb := fw_bnd (s := s) h hS (b := e) ht k
  have nl := nUn_le (B := B) (S := S) (a := e) (e := e + k)
  exact ⟨hb.1, hb.2.1, fun z z1 z2 => by have := hb.2.2 z z1 z2; omega⟩
theorem co_C (h : BkR bb B) (hS : Lgs B s S) {d : Nat} : ∀ z, 0 ≤ z → z ≤ 1000 → 0 ≤ co B S d z ∧ co B S d z ≤ 2400000 := fun z z1 z2 => by
  have cr := co_range (z := z) (d := d) h hS ⟨z1, z2⟩
  have pl := pcB_le (p := onp B S (d : Int)) 24
  omega
theorem Bnd.mv (hb : Bnd t 2400000) : 0 ≤ mvd t ∧ mvd t ≤ 1000000000 := by
  unfold mvd
  by_cases e : t.2.1 < t.1
  · rw [if_pos e]; omega
  · rw [if_neg e]; have := hb.least (by omega); omega
theorem cut_left {d : Nat} : Cuts B s d = if left B s (d : Int) = -1 then 0 else 1 := rfl
def FrL (M M' : Mm) : Prop := ∀ c : Nat, c ≠ 118 → c ≠ 119 → c ≠ 120 → M' c = M c
theorem FrL.refl {M : Mm} : FrL M M := fun _ _ _ _ => rfl
theorem FrL.trans {M M1 M2 : Mm} (h1 : FrL M M1) (h2 : FrL M1 M2) : FrL M M2 := fun c a b d => (h2 c a b d).trans (h1 c a b d)
theorem FrL.cm {M M' : Mm} (f : FrL M M') (h : CM M B s S) : CM M' B s S := fun d hd z z1 z2 => by rw [f 117 (by decide) (by decide) (by decide)]; exact h d hd z z1 z2
theorem l_m31d {M : Mm} {Q : Int → Mm → Prop} {f d : Nat} (hs : inR s) (hd : d < 119) (hB : M 103 = B) (h : BkR bb B) (hS : Lgs B s S) (hc : CM M B s S) (hw : BWm M B s S (d + 1)) (hk : ∀ M', FrL M M' → BWm M' B s S d → wX12_miss_31 Q s f ((d : Int) + -1) M') : wX12_miss_31 Q s (f + 1) (d : Int) M := by
  have lr := left_range (s := s) (d := (d : Int) + 1) h
  have br := byT_range (s := s) (d := (d : Int)) h
  have kb := bw_K (s := s) h hS (k := 118 - d) (by omega)
  have aw := hw (d + 1) (Nat.le_refl _) (by omega)
  rw [show 119 - (d + 1) = 118 - d by omega] at aw
  have ea : arr M (1001 * ((d : Int) + 1)) = fun z => M 118 (1001 * ((d + 1 : Nat) : Int) + z) := by
    funext z
    unfold arr
    rw [if_neg (by omega), show ((d + 1 : Nat) : Int) = (d : Int) + 1 by omega]
  have aw' : AR (arr M (1001 * ((d : Int) + 1))) (bwB B s S (118 - d)) := by rw [ea]; exact aw
  have rng := aw'.range kb (by omega)
  have okA' : okA (1001 * ((d : Int) + 1)) := Or.inr (by omega)
  have ec : Cuts B s (d + 1) = if left B s ((d : Int) + 1) = -1 then 0 else 1 := by
    rw [cut_left, show ((d + 1 : Nat) : Int) = (d : Int) + 1 by omega]
  have ebw := bw_step (B := B) (s := s) (S := S) hd
  have fin : ∀ (M1 : Mm) (val : Int → Int), FrL M M1 → M1 118 = M 118 → AR (fun z => a2 (M 117 (1001 * (d : Int) + z)) (val z)) (bwB B s S (119 - d)) → ∀ M' : Mm, (∀ c : Nat, c ≠ 118 → M' c = M1 c) → (∀ x : Int, x < 1001 * (d : Int) ∨ 1001 * (d : Int) + 1000 < x → M' 118 x = M1 118 x) → (∀ z : Int, 0 ≤ z → z ≤ 1000 → M' 118 (1001 * (d : Int) + z) = a2 (M1 117 (1001 * (d : Int) + z)) (val z)) → wX12_miss_31 Q s f ((d : Int) + -1) M' := by
    intro M1 val f1 e118 hA M' g1 g2 g3
    refine hk M' (fun c c1 c2 c3 => by rw [g1 c c1, f1 c c1 c2 c3]) (fun e e1 e2 z z1 z2 => ?_)
    by_cases q : e = d
    · rw [q]
      show M' 118 (1001 * (d : Int) + z) = _
      rw [g3 z z1 z2, f1 117 (by decide) (by decide) (by decide)]
      exact hA z z1 z2
    · show M' 118 (1001 * (e : Int) + z) = _
      rw [g2 _ (by omega), e118]
      exact hw e (by omega) e2 z z1 z2
  unfold wX12_miss_31
  refine ⟨(inRof ⟨by omega, by omega⟩), ?_⟩
  rw [if_neg (by omega), if_pos (by omega)]
  refine b_left (by rw [hB]; exact h) hs (inRof ⟨by omega, by omega⟩) ?_
  rw [hB]
  refine ⟨(inRof ⟨by omega, by omega⟩), ?_⟩
  by_cases c : left B s ((d : Int) + 1) = -1
  · rw [if_pos c]
    rw [if_pos c] at ec
    have hr1 : BkR bb (M 103) := by rw [hB]; exact h
    refine b_byT hr1 hs (inRof ⟨by omega, by omega⟩) (Or.inl rfl) (b_byT hr1 hs (inRof ⟨by omega, by omega⟩) (Or.inr rfl) ?_)
    rw [hB]
    refine b_slides okA' rng br (fun M1 f1 hr => ?_)
    have hB1 : M1 103 = B := by rw [f1 103 (by decide) (by decide)]; exact hB
    have fl : FrL M M1 := fun c _ c2 c3 => f1 c c2 c3
    unfold wX12_miss_78
    refine ⟨(inRof ⟨by omega, by omega⟩), ?_⟩
    rw [if_pos (by omega)]
    refine b_left (by rw [hB1]; exact h) hs (inRof ⟨by omega, by omega⟩) ?_
    rw [hB1]
    refine ⟨(inRof ⟨by omega, by omega⟩), ?_⟩
    rw [if_pos c]
    refine ⟨1002, l_m116 (val := M1 119) hs (by omega) h hS (fun z z1 z2 => ?_) 1001 0 M1 (by omega) hB1 (fl.cm hc) (Or.inr (Or.inl ⟨hd, c, fun z _ _ => rfl⟩)) (fun z z1 z2 => by omega) (fin M1 (M1 119) fl (f1 118 (by decide) (by decide)) ?_)⟩
    · have v := (hr z z1 z2).val aw' kb (by omega) ⟨z1, z2⟩
      rw [v]
      by_cases c2 : max (bwB B s S (118 - d)).1 (z + byT B s (d : Int) 0) ≤ min (bwB B s S (118 - d)).2.1 (z + byT B s (d : Int) 1)
      · rw [if_pos c2]
        obtain ⟨⟨y, y1, y2, y3⟩, -⟩ := mnI_spec (f := (bwB B s S (118 - d)).2.2) c2
        have := kb.2.2 y (by omega) (by omega)
        exact (inRof ⟨by omega, by omega⟩)
      · rw [if_neg c2]; exact (inRl (by decide))
    · rw [ebw, ec]
      refine AR_free kb (co_C h hS) (by omega) (by unfold Hw Lw; omega) (fun z z1 z2 => ?_)
      have v := (hr z z1 z2).val aw' kb (by omega) ⟨z1, z2⟩
      rw [hc d (by omega) z z1 z2, v, show z - -Lw B s d = z + byT B s (d : Int) 0 by unfold Lw; omega, show z - -Hw B s d = z + byT B s (d : Int) 1 by unfold Hw; omega]
  · rw [if_neg c]
    rw [if_neg c] at ec
    unfold wX12_miss_78
    refine ⟨(inRof ⟨by omega, by omega⟩), ?_⟩
    rw [if_pos (by omega)]
    refine b_left (by rw [hB]; exact h) hs (inRof ⟨by omega, by omega⟩) ?_
    rw [hB]
    refine ⟨(inRof ⟨by omega, by omega⟩), ?_⟩
    rw [if_neg c]
    refine b_lo okA' rng ?_
    rw [aw'.lo kb (by omega)]
    have mv := kb.mv
    refine ⟨1002, l_m116 (val := fun _ => mvd (bwB B s S (118 - d))) hs (by omega) h hS (fun z z1 z2 => (inRof ⟨by omega, by omega⟩)) 1001 0 M (by omega) hB hc (Or.inr (Or.inr ⟨hd, c, fun z => rfl⟩)) (fun z z1 z2 => by omega) (fin M _ FrL.refl rfl ?_)⟩
    rw [ebw, ec]
    refine AR_cut kb (co_C h hS) (by omega) (by decide) (fun z z1 z2 => ?_)
    rw [hc d (by omega) z z1 z2]
theorem l_m31 {Q : Int → Mm → Prop} (hs : inR s) (h : BkR bb B) (hS : Lgs B s S) : ∀ (d : Nat) (M : Mm), d < 119 → M 103 = B → CM M B s S → BWm M B s S (d + 1) → (∀ M', FrL M M' → BWm M' B s S 0 → wX12_miss_195 Q s M') → wX12_miss_31 Q s (d + 2) (d : Int) M := by
  intro d
  induction d with
  | zero =>
    intro M hd hB hc hw hk
    refine l_m31d hs hd hB h hS hc hw (fun M1 f1 hw1 => ?_)
    unfold wX12_miss_31
    refine ⟨(inRl (by decide)), ?_⟩
    rw [if_pos (by decide)]
    exact hk M1 f1 hw1
  | succ d ih =>
    intro M hd hB hc hw hk
    refine l_m31d hs hd hB h hS hc hw (fun M1 f1 hw1 => ?_)
    rw [show ((d + 1 : Nat) : Int) + -1 = (d : Int) by omega]
    exact ih M1 (by omega) (by rw [f1 103 (by decide) (by decide) (by decide)]; exact hB) (f1.cm hc) hw1 (fun M2 f2 => hk M2 (f1.trans f2))
theorem l_m31all {M : Mm} {Q : Int → Mm → Prop} (hs : inR s) (hB : M 103 = B) (h : BkR bb B) (hS : Lgs B s S) (hc : CM M B s S) (hk : ∀ M', FrL M M' → BWm M' B s S 0 → wX12_miss_195 Q s M') : wX12_miss_31 Q s 121 119 M := by
  unfold wX12_miss_31
  refine ⟨(inRl (by decide)), ?_⟩
  rw [if_neg (by decide), if_neg (by decide)]
  unfold wX12_miss_78
  refine ⟨(inRl (by decide)), ?_⟩
  rw [if_neg (by decide)]
  have cap := cap_range (s := s) (d := ((119 : Nat) : Int)) h
  have key := l_m116 (B := B) (s := s) (S := S) (Q := Q) (k31 := wX12_miss_31 Q s 120) (d := 119) (v4 := 0) (val := fun _ => 0) hs (by omega) h hS (fun z _ _ => (inRl (by decide))) 1001 0 M (by omega) hB hc (Or.inl ⟨rfl, fun z => rfl⟩) (fun z z1 z2 => by omega) (fun M1 g1 g2 g3 => ?_)
  · exact ⟨1002, key⟩
  · have fl : FrL M M1 := fun c c1 _ _ => g1 c c1
    refine l_m31 hs h hS 118 M1 (by omega) (by rw [g1 103 (by decide)]; exact hB) (fl.cm hc) (fun e e1 e2 z z1 z2 => ?_) (fun M2 f2 => hk M2 (fl.trans f2))
    have ee : e = 119 := by omega
    subst ee
    show M1 118 (1001 * ((119 : Nat) : Int) + z) = if (0 : Int) ≤ z ∧ z ≤ Cp B s 119 then co B S 119 z else 1000000000
    rw [g3 z z1 z2, hc 119 (by omega) z z1 z2]
    have cr := co_C (s := s) h hS (d := 119) z z1 z2
    unfold a2
    by_cases c : z ≤ Cp B s 119
    · rw [if_pos c, if_pos (by omega), if_pos (by decide), if_pos ⟨z1, c⟩]; omega
    · rw [if_neg c, if_neg (by decide), if_neg (fun y => c y.2)]
end Mb
