/-! ===== a chain of differences, pure ===== -/
section Chain
variable (a b L H ct : Nat → Int)
def fl : Nat → Int
  | 0 => a 0
  | n + 1 => if ct (n + 1) = 0 then max (a (n + 1)) (fl n + L n) else a (n + 1)
def fh : Nat → Int
  | 0 => b 0
  | n + 1 => if ct (n + 1) = 0 then min (b (n + 1)) (fh n + H n) else b (n + 1)
def blk : Nat → Int
  | 0 => fl a L ct 119
  | k + 1 => if ct (119 - k) = 0 then max (fl a L ct (118 - k)) (blk k - H (118 - k)) else fl a L ct (118 - k)
def bhk : Nat → Int
  | 0 => fh b H ct 119
  | k + 1 => if ct (119 - k) = 0 then min (fh b H ct (118 - k)) (bhk k - L (118 - k)) else fh b H ct (118 - k)
def bl (d : Nat) : Int := blk a L H ct (119 - d)
def bh (d : Nat) : Int := bhk b L H ct (119 - d)
def okF : Prop := ∀ d, d < 120 → fl a L ct d ≤ fh b H ct d
def Crv (c : Nat → Int) : Prop := (∀ d, d < 120 → a d ≤ c d ∧ c d ≤ b d) ∧ ∀ d, d + 1 < 120 → ct (d + 1) = 0 → L d ≤ c (d + 1) - c d ∧ c (d + 1) - c d ≤ H d
end Chain
section Chain2
variable {a b L H ct : Nat → Int}
theorem bl_last : bl a L H ct 119 = fl a L ct 119 := rfl
theorem bh_last : bh b L H ct 119 = fh b H ct 119 := rfl
theorem bl_step {d : Nat} (h : d < 119) : bl a L H ct d = if ct (d + 1) = 0 then max (fl a L ct d) (bl a L H ct (d + 1) - H d) else fl a L ct d := by
  have e1 : 119 - d = (118 - d) + 1 := by omega
  have e2 : 119 - (d + 1) = 118 - d := by omega
  have e3 : 119 - (118 - d) = d + 1 := by omega
  have e4 : 118 - (118 - d) = d := by omega
  unfold bl
  rw [e1, e2]
  show (if ct (119 - (118 - d)) = 0 then max (fl a L ct (118 - (118 - d))) (blk a L H ct (118 - d) - H (118 - (118 - d))) else fl a L ct (118 - (118 - d))) = _
  rw [e3, e4]
theorem bh_step {d : Nat} (h : d < 119) : bh b L H ct d = if ct (d + 1) = 0 then min (fh b H ct d) (bh b L H ct (d + 1) - L d) else fh b H ct d := by
  have e1 : 119 - d = (118 - d) + 1 := by omega
  have e2 : 119 - (d + 1) = 118 - d := by omega
  have e3 : 119 - (118 - d) = d + 1 := by omega
  have e4 : 118 - (118 - d) = d := by omega
  unfold bh
  rw [e1, e2]
  show (if ct (119 - (118 - d)) = 0 then min (fh b H ct (118 - (118 - d))) (bhk b L H ct (118 - d) - L (118 - (118 - d))) else fh b H ct (118 - (118 - d))) = _
  rw [e3, e4]
/-- from the last day to the first -/
theorem down {P : Nat → Prop} (h0 : P 119) (hs : ∀ d, d < 119 → P (d + 1) → P d) : ∀ d, d < 120 → P d := by
  have key : ∀ k, k ≤ 119 → P (119 - k) := by
    intro k
    induction k with
    | zero => intro _; exact h0
    | succ k ih =>
      intro hk
      have := hs (119 - (k + 1)) (by omega) (by rw [show 119 - (k + 1) + 1 = 119 - k by omega]; exact ih (by omega))
      exact this
  intro d hd
  have := key (119 - d) (by omega)
  rw [show 119 - (119 - d) = d by omega] at this
  exact this
theorem fl_a (d : Nat) : a d ≤ fl a L ct d := by
  cases d with
  | zero => exact Int.le_refl _
  | succ n => show a (n + 1) ≤ (if ct (n + 1) = 0 then max (a (n + 1)) (fl a L ct n + L n) else a (n + 1)); split <;> omega
theorem fh_b (d : Nat) : fh b H ct d ≤ b d := by
  cases d with
  | zero => exact Int.le_refl _
  | succ n => show (if ct (n + 1) = 0 then min (b (n + 1)) (fh b H ct n + H n) else b (n + 1)) ≤ b (n + 1); split <;> omega
theorem fl_law {d : Nat} (h : ct (d + 1) = 0) : fl a L ct d + L d ≤ fl a L ct (d + 1) := by
  show _ ≤ (if ct (d + 1) = 0 then max (a (d + 1)) (fl a L ct d + L d) else a (d + 1))
  rw [if_pos h]; omega
theorem fh_law {d : Nat} (h : ct (d + 1) = 0) : fh b H ct (d + 1) ≤ fh b H ct d + H d := by
  show (if ct (d + 1) = 0 then min (b (d + 1)) (fh b H ct d + H d) else b (d + 1)) ≤ _
  rw [if_pos h]; omega
theorem bl_fl {d : Nat} (h : d < 120) : fl a L ct d ≤ bl a L H ct d := by
  by_cases q : d = 119
  · subst q; exact Int.le_refl _
  · rw [bl_step (by omega)]; split <;> omega
theorem bh_fh {d : Nat} (h : d < 120) : bh b L H ct d ≤ fh b H ct d := by
  by_cases q : d = 119
  · subst q; exact Int.le_refl _
  · rw [bh_step (by omega)]; split <;> omega
theorem ok_back (hLH : ∀ d, L d ≤ H d) (h : okF a b L H ct) : ∀ d, d < 120 → bl a L H ct d ≤ bh b L H ct d := by
  refine down (h 119 (by omega)) (fun d hd ih => ?_)
  have h0 := h d (by omega)
  have h1 := bl_fl (a := a) (L := L) (H := H) (ct := ct) (d := d + 1) (by omega)
  have h2 := bh_fh (b := b) (L := L) (H := H) (ct := ct) (d := d + 1) (by omega)
  have h3 := hLH d
  rw [bl_step hd, bh_step hd]
  by_cases c : ct (d + 1) = 0
  · rw [if_pos c, if_pos c]
    have h4 := fl_law (a := a) (L := L) (ct := ct) c
    have h5 := fh_law (b := b) (H := H) (ct := ct) c
    omega
  · rw [if_neg c, if_neg c]; exact h0
theorem ok_iff (hLH : ∀ d, L d ≤ H d) : okF a b L H ct ↔ ∀ d, d < 120 → bl a L H ct d ≤ bh b L H ct d := by
  refine ⟨ok_back hLH, fun h d hd => ?_⟩
  have h0 := h d hd
  have h1 := bl_fl (a := a) (L := L) (H := H) (ct := ct) hd
  have h2 := bh_fh (b := b) (L := L) (H := H) (ct := ct) hd
  omega
theorem crv_f {c : Nat → Int} (h : Crv a b L H ct c) : ∀ d, d < 120 → fl a L ct d ≤ c d ∧ c d ≤ fh b H ct d := by
  intro d
  induction d with
  | zero => intro hd; exact h.1 0 hd
  | succ n ih =>
    intro hd
    have ih := ih (by omega)
    have h1 := h.1 (n + 1) hd
    have h2 := h.2 n hd
    show (if ct (n + 1) = 0 then max (a (n + 1)) (fl a L ct n + L n) else a (n + 1)) ≤ _ ∧ _ ≤ (if ct (n + 1) = 0 then min (b (n + 1)) (fh b H ct n + H n) else b (n + 1))
    by_cases q : ct (n + 1) = 0
    · rw [if_pos q, if_pos q]
      have h2 := h2 q
      omega
    · rw [if_neg q, if_neg q]; exact h1
theorem crv_b {c : Nat → Int} (h : Crv a b L H ct c) : ∀ d, d < 120 → bl a L H ct d ≤ c d ∧ c d ≤ bh b L H ct d := by
  refine down (crv_f h 119 (by omega)) (fun d hd ih => ?_)
  have h0 := crv_f h d (by omega)
  have h2 := h.2 d (by omega)
  rw [bl_step hd, bh_step hd]
  by_cases q : ct (d + 1) = 0
  · rw [if_pos q, if_pos q]
    have h2 := h2 q
    omega
  · rw [if_neg q, if_neg q]; exact h0
theorem crv_ok {c : Nat → Int} (h : Crv a b L H ct c) : okF a b L H ct := fun d hd => by
  have := crv_f h d hd
  omega
/-- a curve ahead from z on day d, behind it -/
def fwd (a b L H ct : Nat → Int) (d : Nat) (z : Int) : Nat → Int
  | 0 => z
  | k + 1 => if ct (d + k + 1) = 0 then max (bl a L H ct (d + k + 1)) (fwd a b L H ct d z k + L (d + k)) else bl a L H ct (d + k + 1)
def bwd (a L H ct : Nat → Int) (d : Nat) (z : Int) : Nat → Int
  | 0 => z
  | k + 1 => if ct (d - k) = 0 then max (fl a L ct (d - k - 1)) (bwd a L H ct d z k - H (d - k - 1)) else fl a L ct (d - k - 1)
theorem crv_ex (hLH : ∀ d, L d ≤ H d) (h : okF a b L H ct) {d : Nat} (hd : d < 120) {z : Int} (hz : bl a L H ct d ≤ z ∧ z ≤ bh b L H ct d) : ∃ c, Crv a b L H ct c ∧ c d = z := by
  have hb := ok_back hLH h
  have kf : ∀ k, d + k < 120 → (bl a L H ct (d + k) ≤ fwd a b L H ct d z k ∧ fwd a b L H ct d z k ≤ bh b L H ct (d + k)) := by
    intro k
    induction k with
    | zero => intro _; exact hz
    | succ k ih =>
      intro hk
      have ih := ih (by omega)
      have hbk := hb (d + k + 1) (by omega)
      have s1 := bl_step (a := a) (L := L) (H := H) (ct := ct) (d := d + k) (by omega)
      have s2 := bh_step (b := b) (L := L) (H := H) (ct := ct) (d := d + k) (by omega)
      show bl a L H ct (d + k + 1) ≤ (if ct (d + k + 1) = 0 then max (bl a L H ct (d + k + 1)) (fwd a b L H ct d z k + L (d + k)) else bl a L H ct (d + k + 1)) ∧ (if ct (d + k + 1) = 0 then max (bl a L H ct (d + k + 1)) (fwd a b L H ct d z k + L (d + k)) else bl a L H ct (d + k + 1)) ≤ bh b L H ct (d + k + 1)
      by_cases q : ct (d + k + 1) = 0
      · rw [if_pos q]
        rw [if_pos q] at s1 s2
        omega
      · rw [if_neg q]; omega
  have kl : ∀ k, d + k + 1 < 120 → ct (d + k + 1) = 0 → L (d + k) ≤ fwd a b L H ct d z (k + 1) - fwd a b L H ct d z k ∧ fwd a b L H ct d z (k + 1) - fwd a b L H ct d z k ≤ H (d + k) := by
    intro k hk q
    have k0 := kf k (by omega)
    have s1 := bl_step (a := a) (L := L) (H := H) (ct := ct) (d := d + k) (by omega)
    have hl := hLH (d + k)
    rw [if_pos q] at s1
    have e : fwd a b L H ct d z (k + 1) = max (bl a L H ct (d + k + 1)) (fwd a b L H ct d z k + L (d + k)) := if_pos q
    rw [e]
    omega
  have gf : ∀ k, k ≤ d → (fl a L ct (d - k) ≤ bwd a L H ct d z k ∧ bwd a L H ct d z k ≤ fh b H ct (d - k)) := by
    intro k
    induction k with
    | zero =>
      intro _
      have h1 := bl_fl (a := a) (L := L) (H := H) (ct := ct) hd
      have h2 := bh_fh (b := b) (L := L) (H := H) (ct := ct) hd
      show fl a L ct d ≤ z ∧ z ≤ fh b H ct d
      omega
    | succ k ih =>
      intro hk
      have ih := ih (by omega)
      have hbk := h (d - k - 1) (by omega)
      have s1 := fh_law (b := b) (H := H) (ct := ct) (d := d - k - 1)
      rw [show d - k - 1 + 1 = d - k by omega] at s1
      rw [show d - (k + 1) = d - k - 1 by omega]
      show _ ≤ (if ct (d - k) = 0 then max (fl a L ct (d - k - 1)) (bwd a L H ct d z k - H (d - k - 1)) else fl a L ct (d - k - 1)) ∧ (if ct (d - k) = 0 then max (fl a L ct (d - k - 1)) (bwd a L H ct d z k - H (d - k - 1)) else fl a L ct (d - k - 1)) ≤ _
      by_cases q : ct (d - k) = 0
      · rw [if_pos q]
        have s1 := s1 q
        omega
      · rw [if_neg q]; omega
  have gl : ∀ k, k + 1 ≤ d → ct (d - k) = 0 → L (d - k - 1) ≤ bwd a L H ct d z k - bwd a L H ct d z (k + 1) ∧ bwd a L H ct d z k - bwd a L H ct d z (k + 1) ≤ H (d - k - 1) := by
    intro k hk q
    have g0 := gf k (by omega)
    have s1 := fl_law (a := a) (L := L) (ct := ct) (d := d - k - 1)
    rw [show d - k - 1 + 1 = d - k by omega] at s1
    have s1 := s1 q
    have hl := hLH (d - k - 1)
    have e : bwd a L H ct d z (k + 1) = max (fl a L ct (d - k - 1)) (bwd a L H ct d z k - H (d - k - 1)) := if_pos q
    rw [e]
    omega
  refine ⟨fun e => if e ≤ d then bwd a L H ct d z (d - e) else fwd a b L H ct d z (e - d), ⟨fun e he => ?_, fun e he q => ?_⟩, ?_⟩
  · show a e ≤ (if e ≤ d then _ else _) ∧ (if e ≤ d then _ else _) ≤ b e
    have h1 := fl_a (a := a) (L := L) (ct := ct) e
    have h2 := fh_b (b := b) (H := H) (ct := ct) e
    by_cases c : e ≤ d
    · rw [if_pos c]
      have := gf (d - e) (by omega)
      rw [show d - (d - e) = e by omega] at this
      omega
    · rw [if_neg c]
      have := kf (e - d) (by omega)
      rw [show d + (e - d) = e by omega] at this
      have h3 := bl_fl (a := a) (L := L) (H := H) (ct := ct) he
      have h4 := bh_fh (b := b) (L := L) (H := H) (ct := ct) he
      omega
  · show L e ≤ (if e + 1 ≤ d then _ else _) - (if e ≤ d then _ else _) ∧ (if e + 1 ≤ d then _ else _) - (if e ≤ d then _ else _) ≤ H e
    by_cases c : e + 1 ≤ d
    · rw [if_pos c, if_pos (by omega)]
      have := gl (d - (e + 1)) (by omega)
      rw [show d - (d - (e + 1)) = e + 1 by omega, show e + 1 - 1 = e by omega, show d - (e + 1) + 1 = d - e by omega] at this
      exact this q
    · rw [if_neg c]
      by_cases c2 : e ≤ d
      · rw [if_pos c2]
        have ed : e = d := by omega
        subst ed
        have := kl 0 (by omega) q
        rw [show e + 1 - e = 0 + 1 by omega, show e - e = 0 by omega]
        exact this
      · rw [if_neg c2]
        have := kl (e - d) (by omega)
        rw [show d + (e - d) = e by omega] at this
        rw [show e + 1 - d = e - d + 1 by omega]
        exact this q
  · show (if d ≤ d then bwd a L H ct d z (d - d) else _) = z
    rw [if_pos (Nat.le_refl d), show d - d = 0 by omega]
    rfl
theorem fl_range (ha : ∀ d, 0 ≤ a d ∧ a d ≤ 1000) (hL : ∀ d, -100 ≤ L d ∧ L d ≤ 100) : ∀ n : Nat, 0 ≤ fl a L ct n ∧ fl a L ct n ≤ 1000 + 100 * (n : Int)
  | 0 => by have := ha 0; exact ⟨this.1, by show a 0 ≤ _; omega⟩
  | n + 1 => by
    have ih := fl_range ha hL n
    have h1 := ha (n + 1)
    have h2 := hL n
    show 0 ≤ (if ct (n + 1) = 0 then max (a (n + 1)) (fl a L ct n + L n) else a (n + 1)) ∧ (if ct (n + 1) = 0 then max (a (n + 1)) (fl a L ct n + L n) else a (n + 1)) ≤ 1000 + 100 * ((n + 1 : Nat) : Int)
    split <;> omega
theorem fh_range (hb : ∀ d, -1 ≤ b d ∧ b d ≤ 1000) (hH : ∀ d, -100 ≤ H d ∧ H d ≤ 100) : ∀ n : Nat, -1 - 100 * (n : Int) ≤ fh b H ct n ∧ fh b H ct n ≤ 1000
  | 0 => by have := hb 0; exact ⟨by show _ ≤ b 0; omega, this.2⟩
  | n + 1 => by
    have ih := fh_range hb hH n
    have h1 := hb (n + 1)
    have h2 := hH n
    show -1 - 100 * ((n + 1 : Nat) : Int) ≤ (if ct (n + 1) = 0 then min (b (n + 1)) (fh b H ct n + H n) else b (n + 1)) ∧ (if ct (n + 1) = 0 then min (b (n + 1)) (fh b H ct n + H n) else b (n + 1)) ≤ 1000
    split <;> omega
theorem bl_range (ha : ∀ d, 0 ≤ a d ∧ a d ≤ 1000) (hL : ∀ d, -100 ≤ L d ∧ L d ≤ 100) (hH : ∀ d, -100 ≤ H d ∧ H d ≤ 100) : ∀ d, d < 120 → 0 ≤ bl a L H ct d ∧ bl a L H ct d ≤ 25000 := by
  have key : ∀ d, d < 120 → 0 ≤ bl a L H ct d ∧ bl a L H ct d ≤ 24900 - 100 * (d : Int) := by
    refine down ?_ (fun d hd ih => ?_)
    · have := fl_range (ct := ct) ha hL 119
      rw [bl_last]
      omega
    · have h0 := fl_range (ct := ct) ha hL d
      have h1 := hH d
      rw [bl_step hd]
      split <;> omega
  intro d hd
  have := key d hd
  omega
theorem bh_range (hb : ∀ d, -1 ≤ b d ∧ b d ≤ 1000) (hL : ∀ d, -100 ≤ L d ∧ L d ≤ 100) (hH : ∀ d, -100 ≤ H d ∧ H d ≤ 100) : ∀ d, d < 120 → -25000 ≤ bh b L H ct d ∧ bh b L H ct d ≤ 1000 := by
  have key : ∀ d : Nat, d < 120 → -24000 + 100 * (d : Int) ≤ bh b L H ct d ∧ bh b L H ct d ≤ 1000 := by
    refine down ?_ (fun d hd ih => ?_)
    · have := fh_range (ct := ct) hb hH 119
      rw [bh_last]
      omega
    · have h0 := fh_range (ct := ct) hb hH d
      have h1 := hL d
      rw [bh_step hd]
      split <;> omega
  intro d hd
  have := key d hd
  omega
end Chain2
