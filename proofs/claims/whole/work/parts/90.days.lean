/-! ===== least costs along the days, pure ===== -/
abbrev Dp := Int × Int × (Int → Int)
def wmR (f : Int → Int) (a : Int) : Nat → Int
  | 0 => f a
  | n + 1 => min (wmR f a n) (f (a + ((n : Int) + 1)))
def mnI (f : Int → Int) (a b : Int) : Int := wmR f a (b - a).toNat
theorem wmR_spec {f : Int → Int} {a : Int} : ∀ n : Nat, (∃ y, a ≤ y ∧ y ≤ a + (n : Int) ∧ f y = wmR f a n) ∧ ∀ y, a ≤ y → y ≤ a + (n : Int) → wmR f a n ≤ f y
  | 0 => by
    refine ⟨⟨a, by omega, by omega, rfl⟩, fun y h1 h2 => ?_⟩
    have e : y = a := by omega
    rw [e]
    exact Int.le_refl _
  | n + 1 => by
    obtain ⟨⟨y, y1, y2, y3⟩, h⟩ := wmR_spec (f := f) (a := a) n
    unfold wmR
    constructor
    · by_cases c : wmR f a n ≤ f (a + ((n : Int) + 1))
      · exact ⟨y, y1, by omega, by omega⟩
      · exact ⟨a + ((n : Int) + 1), by omega, by omega, by omega⟩
    · intro y' h1 h2
      by_cases c : y' ≤ a + (n : Int)
      · have := h y' h1 c; omega
      · have : y' = a + ((n : Int) + 1) := by omega
        subst this; omega
theorem mnI_spec {f : Int → Int} {a b : Int} (h : a ≤ b) : (∃ y, a ≤ y ∧ y ≤ b ∧ f y = mnI f a b) ∧ ∀ y, a ≤ y → y ≤ b → mnI f a b ≤ f y := by
  have := wmR_spec (f := f) (a := a) (b - a).toNat
  rw [show a + (((b - a).toNat : Nat) : Int) = b by omega] at this
  exact this
theorem mnI_eq {f : Int → Int} {a b v y : Int} (h1 : a ≤ y) (h2 : y ≤ b) (h3 : f y = v) (h4 : ∀ x, a ≤ x → x ≤ b → v ≤ f x) : mnI f a b = v := by
  obtain ⟨⟨x, x1, x2, x3⟩, h⟩ := mnI_spec (f := f) (a := a) (b := b) (by omega)
  have a1 := h4 x x1 x2
  have a2 := h y h1 h2
  omega
def stp (t : Dp) (low high cp q : Int) : Dp := if t.2.1 < t.1 then t else if q = 0 then (max (t.1 + low) 0, min (t.2.1 + high) cp, fun z => mnI t.2.2 (max t.1 (z - high)) (min t.2.1 (z - low))) else (0, cp, fun _ => mnI t.2.2 t.1 t.2.1)
def adc (t : Dp) (g : Int → Int) : Dp := (t.1, t.2.1, fun z => t.2.2 z + g z)
def lst (t : Dp) : Int := mnI t.2.2 t.1 t.2.1
def Rp (t : Dp) (X : Int → Int → Prop) : Prop := (∀ z, t.1 ≤ z → z ≤ t.2.1 → X z (t.2.2 z)) ∧ ∀ z v, X z v → t.1 ≤ z ∧ z ≤ t.2.1 ∧ t.2.2 z ≤ v
def stX (X : Int → Int → Prop) (low high cp q : Int) (z v : Int) : Prop := (0 ≤ z ∧ z ≤ cp) ∧ ∃ y, X y v ∧ (q = 0 → low ≤ z - y ∧ z - y ≤ high)
def adX (X : Int → Int → Prop) (g : Int → Int) (z v : Int) : Prop := ∃ u, X z u ∧ v = u + g z
section Dpp
variable {t : Dp} {X : Int → Int → Prop} {low high cp q K : Int} {g : Int → Int}
theorem Rp.st (h : Rp t X) (hl : low ≤ high) : Rp (stp t low high cp q) (stX X low high cp q) := by
  unfold stp
  by_cases e : t.2.1 < t.1
  · rw [if_pos e]
    refine ⟨fun z h1 h2 => by omega, fun z v hv => ?_⟩
    obtain ⟨-, y, hy, -⟩ := hv
    have := h.2 y v hy
    omega
  rw [if_neg e]
  by_cases c : q = 0
  · rw [if_pos c]
    refine ⟨fun z h1 h2 => ?_, fun z v hv => ?_⟩
    · have h1 : max (t.1 + low) 0 ≤ z := h1
      have h2 : z ≤ min (t.2.1 + high) cp := h2
      obtain ⟨⟨y, y1, y2, y3⟩, -⟩ := mnI_spec (f := t.2.2) (a := max t.1 (z - high)) (b := min t.2.1 (z - low)) (by omega)
      refine ⟨by omega, y, ?_, fun _ => by omega⟩
      show X y (mnI t.2.2 (max t.1 (z - high)) (min t.2.1 (z - low)))
      rw [← y3]
      exact h.1 y (by omega) (by omega)
    · obtain ⟨hz, y, hy, hl'⟩ := hv
      have hl' := hl' c
      have hy := h.2 y v hy
      refine ⟨by show max (t.1 + low) 0 ≤ z; omega, by show z ≤ min (t.2.1 + high) cp; omega, ?_⟩
      show mnI t.2.2 (max t.1 (z - high)) (min t.2.1 (z - low)) ≤ v
      have := (mnI_spec (f := t.2.2) (a := max t.1 (z - high)) (b := min t.2.1 (z - low)) (by omega)).2 y (by omega) (by omega)
      omega
  · rw [if_neg c]
    refine ⟨fun z h1 h2 => ?_, fun z v hv => ?_⟩
    · have h1 : 0 ≤ z := h1
      have h2 : z ≤ cp := h2
      obtain ⟨⟨y, y1, y2, y3⟩, -⟩ := mnI_spec (f := t.2.2) (a := t.1) (b := t.2.1) (by omega)
      refine ⟨by omega, y, ?_, fun z => absurd z c⟩
      show X y (mnI t.2.2 t.1 t.2.1)
      rw [← y3]
      exact h.1 y y1 y2
    · obtain ⟨hz, y, hy, -⟩ := hv
      have hy := h.2 y v hy
      refine ⟨hz.1, hz.2, ?_⟩
      show mnI t.2.2 t.1 t.2.1 ≤ v
      have := (mnI_spec (f := t.2.2) (a := t.1) (b := t.2.1) (by omega)).2 y (by omega) (by omega)
      omega
theorem Rp.ad (h : Rp t X) : Rp (adc t g) (adX X g) := by
  refine ⟨fun z h1 h2 => ⟨t.2.2 z, h.1 z h1 h2, rfl⟩, fun z v hv => ?_⟩
  obtain ⟨u, hu, e⟩ := hv
  have := h.2 z u hu
  refine ⟨this.1, this.2.1, ?_⟩
  show t.2.2 z + g z ≤ v
  omega
/-- bounds -/
def Bnd (t : Dp) (K : Int) : Prop := 0 ≤ t.1 ∧ t.2.1 ≤ 1000 ∧ ∀ z, t.1 ≤ z → z ≤ t.2.1 → 0 ≤ t.2.2 z ∧ t.2.2 z ≤ K
theorem Bnd.st (h : Bnd t K) (hl : low ≤ high) (hc : cp ≤ 1000) : Bnd (stp t low high cp q) K := by
  unfold stp
  by_cases e : t.2.1 < t.1
  · rw [if_pos e]; exact h
  rw [if_neg e]
  by_cases c : q = 0
  · rw [if_pos c]
    refine ⟨by show 0 ≤ max (t.1 + low) 0; omega, by show min (t.2.1 + high) cp ≤ 1000; omega, fun z h1 h2 => ?_⟩
    have h1 : max (t.1 + low) 0 ≤ z := h1
    have h2 : z ≤ min (t.2.1 + high) cp := h2
    obtain ⟨⟨y, y1, y2, y3⟩, -⟩ := mnI_spec (f := t.2.2) (a := max t.1 (z - high)) (b := min t.2.1 (z - low)) (by omega)
    have := h.2.2 y (by omega) (by omega)
    show 0 ≤ mnI t.2.2 (max t.1 (z - high)) (min t.2.1 (z - low)) ∧ mnI t.2.2 (max t.1 (z - high)) (min t.2.1 (z - low)) ≤ K
    omega
  · rw [if_neg c]
    refine ⟨by show (0 : Int) ≤ 0; omega, hc, fun z h1 h2 => ?_⟩
    obtain ⟨⟨y, y1, y2, y3⟩, -⟩ := mnI_spec (f := t.2.2) (a := t.1) (b := t.2.1) (by omega)
    have := h.2.2 y y1 y2
    show 0 ≤ mnI t.2.2 t.1 t.2.1 ∧ mnI t.2.2 t.1 t.2.1 ≤ K
    omega
theorem Bnd.ad {C : Int} (h : Bnd t K) (hg : ∀ z, 0 ≤ z → z ≤ 1000 → 0 ≤ g z ∧ g z ≤ C) : Bnd (adc t g) (K + C) := by
  have a1 := h.1
  have a2 := h.2.1
  refine ⟨h.1, h.2.1, fun z h1 h2 => ?_⟩
  have h1 : t.1 ≤ z := h1
  have h2 : z ≤ t.2.1 := h2
  have := h.2.2 z h1 h2
  have hg := hg z (by omega) (by omega)
  show 0 ≤ t.2.2 z + g z ∧ t.2.2 z + g z ≤ K + C
  omega
theorem Bnd.least (h : Bnd t K) (hne : t.1 ≤ t.2.1) : 0 ≤ lst t ∧ lst t ≤ K := by
  obtain ⟨⟨y, y1, y2, y3⟩, -⟩ := mnI_spec (f := t.2.2) (a := t.1) (b := t.2.1) hne
  have := h.2.2 y y1 y2
  unfold lst
  omega
theorem stp_empty (h : t.2.1 < t.1) : stp t low high cp q = t := by unfold stp; rw [if_pos h]
/-- what is least only grows -/
theorem lst_grow (hn : t.1 ≤ t.2.1) (hg : ∀ z, 0 ≤ z → z ≤ 1000 → 0 ≤ g z) (hl : low ≤ high) (hb : 0 ≤ t.1) (hc : cp ≤ 1000) (hn2 : (adc (stp t low high cp q) g).1 ≤ (adc (stp t low high cp q) g).2.1) : lst t ≤ lst (adc (stp t low high cp q) g) := by
  have key : ∀ z, (stp t low high cp q).1 ≤ z → z ≤ (stp t low high cp q).2.1 → (0 ≤ z ∧ z ≤ 1000) ∧ lst t ≤ (stp t low high cp q).2.2 z := by
    intro z
    unfold stp
    rw [if_neg (by omega)]
    by_cases c : q = 0
    · rw [if_pos c]
      intro h1 h2
      have h1 : max (t.1 + low) 0 ≤ z := h1
      have h2 : z ≤ min (t.2.1 + high) cp := h2
      obtain ⟨⟨y, y1, y2, y3⟩, -⟩ := mnI_spec (f := t.2.2) (a := max t.1 (z - high)) (b := min t.2.1 (z - low)) (by omega)
      have := (mnI_spec (f := t.2.2) (a := t.1) (b := t.2.1) hn).2 y (by omega) (by omega)
      refine ⟨by omega, ?_⟩
      show mnI t.2.2 t.1 t.2.1 ≤ mnI t.2.2 (max t.1 (z - high)) (min t.2.1 (z - low))
      omega
    · rw [if_neg c]
      intro h1 h2
      have h1 : 0 ≤ z := h1
      have h2 : z ≤ cp := h2
      exact ⟨by omega, Int.le_refl _⟩
  obtain ⟨⟨y, y1, y2, y3⟩, -⟩ := mnI_spec (f := (adc (stp t low high cp q) g).2.2) hn2
  have k1 := key y y1 y2
  have k2 := hg y k1.1.1 k1.1.2
  have y3 : (stp t low high cp q).2.2 y + g y = mnI (adc (stp t low high cp q) g).2.2 (adc (stp t low high cp q) g).1 (adc (stp t low high cp q) g).2.1 := y3
  have k3 := k1.2
  unfold lst at k3 ⊢
  omega
theorem Rp.none (h : Rp t X) : t.2.1 < t.1 ↔ ¬ ∃ z v, X z v := by
  constructor
  · rintro e ⟨z, v, hx⟩
    have := h.2 z v hx
    omega
  · intro hn
    by_cases c : t.2.1 < t.1
    · exact c
    · exact absurd ⟨t.1, _, h.1 t.1 (by omega) (by omega)⟩ hn
theorem Rp.least (h : Rp t X) (hne : t.1 ≤ t.2.1) : (∃ z, X z (lst t)) ∧ ∀ z v, X z v → lst t ≤ v := by
  obtain ⟨⟨y, y1, y2, y3⟩, hm⟩ := mnI_spec (f := t.2.2) (a := t.1) (b := t.2.1) hne
  refine ⟨⟨y, ?_⟩, fun z v hv => ?_⟩
  · show X y (mnI t.2.2 t.1 t.2.1)
    rw [← y3]
    exact h.1 y y1 y2
  · have a := h.2 z v hv
    have b := hm z a.1 a.2.1
    show mnI t.2.2 t.1 t.2.1 ≤ v
    omega
end Dpp
section Chain2
variable (L H cap ct : Nat → Int) (co : Nat → Int → Int)
def FW (b : Nat) (top : Int) : Nat → Dp
  | 0 => (0, top, co b)
  | k + 1 => adc (stp (FW b top k) (L (b + k)) (H (b + k)) (cap (b + k + 1)) (ct (b + k + 1))) (co (b + k + 1))
def XF (b : Nat) (top : Int) : Nat → Int → Int → Prop
  | 0 => fun z v => (0 ≤ z ∧ z ≤ top) ∧ v = co b z
  | k + 1 => adX (stX (XF b top k) (L (b + k)) (H (b + k)) (cap (b + k + 1)) (ct (b + k + 1))) (co (b + k + 1))
def BW : Nat → Dp
  | 0 => (0, cap 119, co 119)
  | k + 1 => adc (stp (BW k) (-H (118 - k)) (-L (118 - k)) (cap (118 - k)) (ct (118 - k + 1))) (co (118 - k))
def XB : Nat → Int → Int → Prop
  | 0 => fun z v => (0 ≤ z ∧ z ≤ cap 119) ∧ v = co 119 z
  | k + 1 => adX (stX (XB k) (-H (118 - k)) (-L (118 - k)) (cap (118 - k)) (ct (118 - k + 1))) (co (118 - k))
variable {L H cap ct co} {b : Nat} {top : Int}
theorem Rp_FW (hL : ∀ d, L d ≤ H d) : ∀ k, Rp (FW L H cap ct co b top k) (XF L H cap ct co b top k)
  | 0 => ⟨fun z h1 h2 => ⟨⟨h1, h2⟩, rfl⟩, fun z v hv => ⟨hv.1.1, hv.1.2, by show co b z ≤ v; rw [hv.2]; exact Int.le_refl _⟩⟩
  | k + 1 => ((Rp_FW hL k).st (hL _)).ad
theorem Rp_BW (hL : ∀ d, L d ≤ H d) : ∀ k, Rp (BW L H cap ct co k) (XB L H cap ct co k)
  | 0 => ⟨fun z h1 h2 => ⟨⟨h1, h2⟩, rfl⟩, fun z v hv => ⟨hv.1.1, hv.1.2, by show co 119 z ≤ v; rw [hv.2]; exact Int.le_refl _⟩⟩
  | k + 1 => ((Rp_BW hL k).st (by have := hL (118 - k); omega)).ad
theorem XB_dom : ∀ (k : Nat) (z v : Int), k ≤ 119 → XB L H cap ct co k z v → 0 ≤ z ∧ z ≤ cap (119 - k)
  | 0, z, v, _, h => h.1
  | k + 1, z, v, hk, h => by
    obtain ⟨u, hu, -⟩ := h
    rw [show 119 - (k + 1) = 118 - k by omega]
    exact hu.1
theorem XF_dom (ht : top ≤ cap b) : ∀ (k : Nat) (z v : Int), XF L H cap ct co b top k z v → 0 ≤ z ∧ z ≤ cap (b + k)
  | 0, z, v, h => ⟨h.1.1, by have := h.1.2; show z ≤ cap b; omega⟩
  | k + 1, z, v, h => by
    obtain ⟨u, hu, -⟩ := h
    exact hu.1
theorem join_step (ht : top ≤ cap b) {k m : Nat} (hm : b + k + m = 118) {v : Int} : (∃ z u w, XF L H cap ct co b top k z u ∧ XB L H cap ct co (m + 1) z w ∧ v = u + w - co (b + k) z) ↔ (∃ z u w, XF L H cap ct co b top (k + 1) z u ∧ XB L H cap ct co m z w ∧ v = u + w - co (b + k + 1) z) := by
  have e1 : 118 - m = b + k := by omega
  constructor
  · rintro ⟨z, u, w, h1, h2, h3⟩
    obtain ⟨u', ⟨-, y, hy, hl⟩, hw⟩ := h2
    rw [e1] at hl hw
    have hd := XB_dom m y u' (by omega) hy
    rw [show 119 - m = b + k + 1 by omega] at hd
    refine ⟨y, u + co (b + k + 1) y, u', ⟨u, ⟨hd, z, h1, fun q => ?_⟩, rfl⟩, hy, by omega⟩
    have := hl q
    omega
  · rintro ⟨y, u, w, h1, h2, h3⟩
    obtain ⟨u', ⟨-, z, hz, hl⟩, hu⟩ := h1
    have hd := XF_dom ht k z u' hz
    refine ⟨z, u', w + co (b + k) z, hz, ⟨w, ⟨by rw [e1]; exact hd, y, h2, fun q => ?_⟩, by rw [e1]⟩, by omega⟩
    rw [e1] at q ⊢
    have := hl q
    omega
theorem join_all (ht : top ≤ cap b) {v : Int} : ∀ k : Nat, b + k ≤ 119 → ((∃ z u w, XF L H cap ct co b top 0 z u ∧ XB L H cap ct co (119 - b) z w ∧ v = u + w - co b z) ↔ (∃ z u w, XF L H cap ct co b top k z u ∧ XB L H cap ct co (119 - b - k) z w ∧ v = u + w - co (b + k) z))
  | 0, _ => Iff.rfl
  | k + 1, hk => by
    rw [join_all ht k (by omega)]
    have e : 119 - b - k = (119 - b - (k + 1)) + 1 := by omega
    rw [e]
    exact join_step ht (by omega)
theorem join (ht : top ≤ cap b) (hb : b ≤ 119) {v : Int} : (∃ z, z ≤ top ∧ XB L H cap ct co (119 - b) z v) ↔ ∃ z, XF L H cap ct co b top (119 - b) z v := by
  have h := join_all (L := L) (H := H) (ct := ct) (co := co) ht (v := v) (119 - b) (by omega)
  rw [show 119 - b - (119 - b) = 0 by omega, show b + (119 - b) = 119 by omega] at h
  constructor
  · rintro ⟨z, h1, h2⟩
    have hd := XB_dom (119 - b) z v (by omega) h2
    obtain ⟨y, u, w, x1, x2, x3⟩ := h.mp ⟨z, co b z, v, ⟨⟨hd.1, h1⟩, rfl⟩, h2, by omega⟩
    have x2 := x2.2
    exact ⟨y, by rw [show v = u by omega]; exact x1⟩
  · rintro ⟨z, h1⟩
    have hd := XF_dom ht (119 - b) z v h1
    rw [show b + (119 - b) = 119 by omega] at hd
    obtain ⟨y, u, w, x1, x2, x3⟩ := h.mpr ⟨z, v, co 119 z, h1, ⟨hd, rfl⟩, by omega⟩
    have x4 := x1.2
    exact ⟨y, x1.1.2, by rw [show v = w by omega]; exact x2⟩
/-- ahead and back: the same least cost -/
theorem fb_free (hL : ∀ d, L d ≤ H d) : ((FW L H cap ct co 0 (cap 0) 119).2.1 < (FW L H cap ct co 0 (cap 0) 119).1 ↔ (BW L H cap ct co 119).2.1 < (BW L H cap ct co 119).1) ∧ ((BW L H cap ct co 119).1 ≤ (BW L H cap ct co 119).2.1 → lst (FW L H cap ct co 0 (cap 0) 119) = lst (BW L H cap ct co 119)) := by
  have r1 := Rp_FW (cap := cap) (ct := ct) (co := co) (b := 0) (top := cap 0) hL 119
  have r2 := Rp_BW (cap := cap) (ct := ct) (co := co) hL 119
  have j : ∀ v, (∃ z, XB L H cap ct co 119 z v) ↔ ∃ z, XF L H cap ct co 0 (cap 0) 119 z v := fun v => by
    have := join (L := L) (H := H) (cap := cap) (ct := ct) (co := co) (b := 0) (top := cap 0) (Int.le_refl _) (by omega) (v := v)
    rw [← this]
    exact ⟨fun ⟨z, h⟩ => ⟨z, (XB_dom 119 z v (by omega) h).2, h⟩, fun ⟨z, _, h⟩ => ⟨z, h⟩⟩
  have he : (FW L H cap ct co 0 (cap 0) 119).2.1 < (FW L H cap ct co 0 (cap 0) 119).1 ↔ (BW L H cap ct co 119).2.1 < (BW L H cap ct co 119).1 := by
    rw [r1.none, r2.none]
    constructor
    · rintro h ⟨z, v, hx⟩
      obtain ⟨y, hy⟩ := (j v).mp ⟨z, hx⟩
      exact h ⟨y, v, hy⟩
    · rintro h ⟨z, v, hx⟩
      obtain ⟨y, hy⟩ := (j v).mpr ⟨z, hx⟩
      exact h ⟨y, v, hy⟩
  refine ⟨he, fun hn => ?_⟩
  have hn1 : (FW L H cap ct co 0 (cap 0) 119).1 ≤ (FW L H cap ct co 0 (cap 0) 119).2.1 := by
    by_cases c : (FW L H cap ct co 0 (cap 0) 119).2.1 < (FW L H cap ct co 0 (cap 0) 119).1
    · have := he.mp c; omega
    · omega
  obtain ⟨⟨z1, a1⟩, b1⟩ := r1.least hn1
  obtain ⟨⟨z2, a2⟩, b2⟩ := r2.least hn
  obtain ⟨y1, c1⟩ := (j _).mpr ⟨z1, a1⟩
  obtain ⟨y2, c2⟩ := (j _).mp ⟨z2, a2⟩
  have := b1 _ _ c2
  have := b2 _ _ c1
  omega
theorem fb_zero (hL : ∀ d, L d ≤ H d) (hb : b ≤ 119) (hc : 0 ≤ cap b) : ((FW L H cap ct co b 0 (119 - b)).2.1 < (FW L H cap ct co b 0 (119 - b)).1 ↔ ¬ ((BW L H cap ct co (119 - b)).1 ≤ 0 ∧ 0 ≤ (BW L H cap ct co (119 - b)).2.1)) ∧ (((BW L H cap ct co (119 - b)).1 ≤ 0 ∧ 0 ≤ (BW L H cap ct co (119 - b)).2.1) → lst (FW L H cap ct co b 0 (119 - b)) = (BW L H cap ct co (119 - b)).2.2 0) := by
  have r1 := Rp_FW (cap := cap) (ct := ct) (co := co) (b := b) (top := 0) hL (119 - b)
  have r2 := Rp_BW (cap := cap) (ct := ct) (co := co) hL (119 - b)
  have j : ∀ v, XB L H cap ct co (119 - b) 0 v ↔ ∃ z, XF L H cap ct co b 0 (119 - b) z v := fun v => by
    have := join (L := L) (H := H) (cap := cap) (ct := ct) (co := co) (b := b) (top := 0) hc hb (v := v)
    rw [← this]
    constructor
    · intro h; exact ⟨0, by omega, h⟩
    · rintro ⟨z, h1, h2⟩
      have := XB_dom (119 - b) z v (by omega) h2
      have e : z = 0 := by omega
      rw [e] at h2
      exact h2
  have he : (FW L H cap ct co b 0 (119 - b)).2.1 < (FW L H cap ct co b 0 (119 - b)).1 ↔ ¬ ((BW L H cap ct co (119 - b)).1 ≤ 0 ∧ 0 ≤ (BW L H cap ct co (119 - b)).2.1) := by
    rw [r1.none]
    constructor
    · intro h hz
      obtain ⟨y, hy⟩ := (j _).mp (r2.1 0 hz.1 hz.2)
      exact h ⟨y, _, hy⟩
    · rintro h ⟨z, v, hx⟩
      have := r2.2 0 v ((j v).mpr ⟨z, hx⟩)
      exact h ⟨this.1, this.2.1⟩
  refine ⟨he, fun hz => ?_⟩
  have hn1 : (FW L H cap ct co b 0 (119 - b)).1 ≤ (FW L H cap ct co b 0 (119 - b)).2.1 := by
    by_cases c : (FW L H cap ct co b 0 (119 - b)).2.1 < (FW L H cap ct co b 0 (119 - b)).1
    · exact absurd hz (he.mp c)
    · omega
  obtain ⟨⟨z1, a1⟩, b1⟩ := r1.least hn1
  have c1 := r2.2 0 _ ((j _).mpr ⟨z1, a1⟩)
  obtain ⟨y2, c2⟩ := (j _).mp (r2.1 0 hz.1 hz.2)
  have := b1 _ _ c2
  omega
end Chain2
