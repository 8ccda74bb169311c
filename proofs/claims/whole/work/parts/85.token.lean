/-! ===== tokens of the tape ===== -/
def skR (b : Nat → Int) : Nat → Nat → Nat
  | 0, p => p
  | k + 1, p => if b p = 32 then skR b k (p + 1) else p
def dgR (b : Nat → Int) : Nat → Nat → Nat
  | 0, p => p
  | k + 1, p => if 48 ≤ b p ∧ b p ≤ 57 then dgR b k (p + 1) else p
def vaR (b : Nat → Int) : Nat → Nat → Int → Int
  | 0, _, v => v
  | k + 1, p, v => if 48 ≤ b p ∧ b p ≤ 57 then vaR b k (p + 1) (min (v * 10 + b p - 48) 24) else v
def sk (b : Nat → Int) (n p : Nat) : Nat := skR b (n - p) p
def tk (b : Nat → Int) (n p : Nat) : Int := if p < n then (if 48 ≤ b p ∧ b p ≤ 57 then 256 else b p) else -1
def en (b : Nat → Int) (n p : Nat) : Nat := if p < n then (if 48 ≤ b p ∧ b p ≤ 57 then dgR b (n - p) p else p + 1) else p
def va (b : Nat → Int) (n p : Nat) : Int := vaR b (n - p) p 0
def nx (b : Nat → Int) (n p : Nat) : Nat := sk b n (en b n p)
theorem skR_range (b : Nat → Int) : ∀ k p : Nat, p ≤ skR b k p ∧ skR b k p ≤ p + k
  | 0, p => ⟨Nat.le_refl _, Nat.le_refl _⟩
  | k + 1, p => by
    have ih := skR_range b k (p + 1)
    unfold skR
    split <;> omega
theorem dgR_range (b : Nat → Int) : ∀ k p : Nat, p ≤ dgR b k p ∧ dgR b k p ≤ p + k
  | 0, p => ⟨Nat.le_refl _, Nat.le_refl _⟩
  | k + 1, p => by
    have ih := dgR_range b k (p + 1)
    unfold dgR
    split <;> omega
theorem vaR_range (b : Nat → Int) : ∀ (k p : Nat) (v : Int), 0 ≤ v ∧ v ≤ 24 → 0 ≤ vaR b k p v ∧ vaR b k p v ≤ 24
  | 0, p, v, h => h
  | k + 1, p, v, h => by
    unfold vaR
    by_cases q : 48 ≤ b p ∧ b p ≤ 57
    · rw [if_pos q]; exact vaR_range b k (p + 1) _ (by omega)
    · rw [if_neg q]; exact h
section Tok
variable {b : Nat → Int} {n p : Nat}
theorem sk_range (h : p ≤ n) : p ≤ sk b n p ∧ sk b n p ≤ n := by
  have := skR_range b (n - p) p
  unfold sk
  omega
theorem en_range (h : p ≤ n) : p ≤ en b n p ∧ en b n p ≤ n := by
  have := dgR_range b (n - p) p
  unfold en
  split
  · split <;> omega
  · omega
theorem va_range : 0 ≤ va b n p ∧ va b n p ≤ 24 := vaR_range b _ _ _ (by omega)
theorem nx_range (h : p ≤ n) : p ≤ nx b n p ∧ nx b n p ≤ n := by
  have h1 := en_range (b := b) h
  have h2 := sk_range (b := b) h1.2
  unfold nx
  omega
/-- the class's tape; its token -/
def BT (M : Mm) (b : Nat → Int) (n : Nat) : Prop := M 88 2 = (n : Int) ∧ n ≤ 400 ∧ ∀ i : Nat, i < n → M 89 (i : Int) = b i ∧ 0 ≤ b i ∧ b i ≤ 255
def TS (M : Mm) (b : Nat → Int) (n p : Nat) : Prop := M 88 7 = (p : Int) ∧ M 88 6 = tk b n p ∧ M 88 5 = ((en b n p : Nat) : Int) ∧ (tk b n p = 256 → M 88 8 = va b n p)
def FrT (M M' : Mm) : Prop := (∀ c : Nat, c ≠ 88 → M' c = M c) ∧ ∀ i, i ≠ 5 → i ≠ 6 → i ≠ 7 → i ≠ 8 → M' 88 i = M 88 i
theorem FrT.refl {M : Mm} : FrT M M := ⟨fun _ _ => rfl, fun _ _ _ _ _ => rfl⟩
theorem FrT.trans {M M1 M2 : Mm} (h1 : FrT M M1) (h2 : FrT M1 M2) : FrT M M2 := ⟨fun c a => (h2.1 c a).trans (h1.1 c a), fun i a b d e => (h2.2 i a b d e).trans (h1.2 i a b d e)⟩
theorem FrT.bt {M M' : Mm} (h : FrT M M') (hb : BT M b n) : BT M' b n := by
  unfold BT
  rw [h.2 2 (by decide) (by decide) (by decide) (by decide), h.1 89 (by decide)]
  exact hb
variable {kv : Mm → Prop} {kk : Int → Mm → Prop}
theorem b_dig {M : Mm} {x : Int} (hx : inR x) (h1 : 48 ≤ x ∧ x ≤ 57 → kk 1 M) (h0 : ¬ (48 ≤ x ∧ x ≤ 57) → kk 0 M) : Bd (wX10_isDigit x M) kk := by
  apply Bd.of; unfold wX10_isDigit
  refine ⟨hx, ?_⟩
  by_cases c : x < 48
  · rw [if_pos c]; exact h0 (by omega)
  · rw [if_neg c]
    by_cases c2 : x ≤ 57
    · rw [if_pos c2]; exact h1 (by omega)
    · rw [if_neg c2]; exact h0 (by omega)
theorem l_num {Q : Mm → Prop} : ∀ (k p : Nat) (v : Int) (M : Mm), p + k = n → BT M b n → M 88 5 = (p : Int) → M 88 8 = v → (0 ≤ v ∧ v ≤ 24) → (∀ M' : Mm, (∀ c : Nat, c ≠ 88 → M' c = M c) → (∀ i, i ≠ 5 → i ≠ 8 → M' 88 i = M 88 i) → M' 88 5 = ((dgR b k p : Nat) : Int) → M' 88 8 = vaR b k p v → Q M') → wX10_readNumber_5 Q (k + 1) M := by
  intro k
  induction k with
  | zero =>
    intro p v M hp hb h5 h8 hv hk
    have h400 := hb.2.1
    unfold wX10_readNumber_5
    rw [h5, hb.1]
    refine ⟨(inRof ⟨by omega, by omega⟩), (inRof ⟨by omega, by omega⟩), ?_⟩
    rw [if_neg (by omega)]
    exact hk M (fun _ _ => rfl) (fun _ _ _ => rfl) h5 h8
  | succ k ih =>
    intro p v M hp hb h5 h8 hv hk
    have h400 := hb.2.1
    have hbp := hb.2.2 p (by omega)
    unfold wX10_readNumber_5
    rw [h5, hb.1]
    refine ⟨(inRof ⟨by omega, by omega⟩), (inRof ⟨by omega, by omega⟩), ?_⟩
    rw [if_pos (by omega), hbp.1]
    refine ⟨⟨by omega, by omega⟩, ?_⟩
    unfold dgR vaR at hk
    refine b_dig (inRof ⟨by omega, by omega⟩) (fun q => ⟨inR1, ?_⟩) (fun q => ⟨inR0, ?_⟩)
    · rw [if_neg (show ¬ (1 : Int) = 0 by decide), h5, h8, hbp.1]
      rw [if_pos q, if_pos q] at hk
      refine ⟨⟨by omega, by omega⟩, b_min (inRof ⟨by omega, by omega⟩) (inRl (by decide)) ?_⟩
      rw [h5]
      refine ih (p + 1) (min (v * 10 + b p - 48) 24) _ (by omega) ?_ (by rw [up_eq]; omega) (by rw [up_nei (by decide), up_eq]) (by omega) (fun M' k1 k2 k3 k4 => hk M' (fun c hc => by rw [k1 c hc, up_cell hc, up_cell hc]) (fun i a1 a2 => by rw [k2 i a1 a2, up_nei a1, up_nei a2]) k3 k4)
      unfold BT
      rw [up_nei (by decide), up_nei (by decide), up_cell (show 89 ≠ 88 by decide), up_cell (show 89 ≠ 88 by decide)]
      exact hb
    · rw [if_pos rfl]
      rw [if_neg q, if_neg q] at hk
      exact hk M (fun _ _ => rfl) (fun _ _ _ => rfl) h5 h8
theorem l_st38 {M : Mm} {Q : Mm → Prop} (hb : BT M b n) (hp : p ≤ n) (h5 : M 88 5 = (p : Int)) (hk : ∀ M', FrT M M' → TS M' b n p → Q M') : wX10_step_38 Q M := by
  have h400 := hb.2.1
  unfold wX10_step_38
  rw [h5, hb.1]
  refine ⟨(inRof ⟨by omega, by omega⟩), (inRof ⟨by omega, by omega⟩), ?_⟩
  by_cases c : p < n
  · have hbp := hb.2.2 p c
    rw [if_pos (by omega), hbp.1]
    refine ⟨⟨by omega, by omega⟩, ?_⟩
    refine b_dig (inRof ⟨by omega, by omega⟩) (fun q => ⟨inR1, ?_⟩) (fun q => ⟨inR0, ?_⟩)
    · rw [if_neg (show ¬ (1 : Int) = 0 by decide)]
      have et : tk b n p = 256 := by unfold tk; rw [if_pos c, if_pos q]
      have ee : en b n p = dgR b (n - p) p := by unfold en; rw [if_pos c, if_pos q]
      apply Bv.of; unfold wX10_readNumber
      refine ⟨n - p + 1, l_num (b := b) (n := n) (n - p) p 0 _ (by omega) ?_ (by rw [up_nei (by decide), up_nei (by decide), up_nei (by decide)]; exact h5) up_eq (by omega) (fun M' k1 k2 k3 k4 => hk M' ⟨fun c hc => by rw [k1 c hc, up_cell hc, up_cell hc, up_cell hc], fun i a1 a2 a3 a4 => by rw [k2 i a1 a4, up_nei a4, up_nei a2, up_nei a3]⟩ ⟨?_, ?_, ?_, fun _ => k4⟩)⟩
      · unfold BT
        rw [up_nei (by decide), up_nei (by decide), up_nei (by decide), up_cell (show 89 ≠ 88 by decide), up_cell (show 89 ≠ 88 by decide), up_cell (show 89 ≠ 88 by decide)]
        exact hb
      · rw [k2 7 (by decide) (by decide), up_nei (by decide), up_nei (by decide), up_eq]
      · rw [k2 6 (by decide) (by decide), up_nei (by decide), up_eq, et]
      · rw [k3, ee]
    · rw [if_pos rfl]
      have et : tk b n p = b p := by unfold tk; rw [if_pos c, if_neg q]
      have ee : en b n p = p + 1 := by unfold en; rw [if_pos c, if_neg q]
      rw [up_nei (show (5 : Int) ≠ 7 by decide), h5, up_ne (show 89 ≠ 88 by decide), hbp.1]
      refine ⟨⟨by omega, by omega⟩, hk _ ⟨fun c hc => by rw [up_cell hc, up_cell hc, up_cell hc], fun i a1 a2 a3 a4 => by rw [up_nei a1, up_nei a2, up_nei a3]⟩ ⟨by rw [up_nei (by decide), up_nei (by decide), up_eq], by rw [up_nei (by decide), up_eq, et], by rw [up_eq, ee]; omega, fun z => by rw [et] at z; omega⟩⟩
  · rw [if_neg (by omega)]
    have et : tk b n p = -1 := by unfold tk; rw [if_neg c]
    have ee : en b n p = p := by unfold en; rw [if_neg c]
    refine hk _ ⟨fun c hc => by rw [up_cell hc, up_cell hc], fun i a1 a2 a3 a4 => by rw [up_nei a2, up_nei a3]⟩ ⟨by rw [up_nei (by decide), up_eq], by rw [up_eq, et], by rw [up_nei (by decide), up_nei (by decide), h5, ee], fun z => by rw [et] at z; omega⟩
theorem l_st0 {Q : Mm → Prop} : ∀ (k p : Nat) (M : Mm), p + k = n → BT M b n → M 88 5 = (p : Int) → (∀ M', FrT M M' → TS M' b n (skR b k p) → Q M') → wX10_step_0 Q (k + 1) M := by
  intro k
  induction k with
  | zero =>
    intro p M hp hb h5 hk
    have h400 := hb.2.1
    unfold wX10_step_0
    rw [h5, hb.1]
    refine ⟨(inRof ⟨by omega, by omega⟩), (inRof ⟨by omega, by omega⟩), ?_⟩
    rw [if_neg (by omega)]
    exact l_st38 hb (by omega) h5 hk
  | succ k ih =>
    intro p M hp hb h5 hk
    have h400 := hb.2.1
    have hbp := hb.2.2 p (by omega)
    unfold wX10_step_0
    rw [h5, hb.1]
    refine ⟨(inRof ⟨by omega, by omega⟩), (inRof ⟨by omega, by omega⟩), ?_⟩
    rw [if_pos (by omega), hbp.1]
    refine ⟨⟨by omega, by omega⟩, (inRof ⟨by omega, by omega⟩), ?_⟩
    unfold skR at hk
    by_cases q : b p = 32
    · rw [if_pos q]
      rw [if_pos q] at hk
      have f1 : FrT M (up M 88 5 ((p : Int) + 1)) := ⟨fun c hc => up_cell hc, fun i a _ _ _ => up_nei a⟩
      exact ih (p + 1) _ (by omega) (f1.bt hb) (by rw [up_eq]; omega) (fun M' f2 => hk M' (f1.trans f2))
    · rw [if_neg q]
      rw [if_neg q] at hk
      exact l_st38 hb (by omega) h5 hk
theorem b_step {M : Mm} (hb : BT M b n) (hp : p ≤ n) (h5 : M 88 5 = (p : Int)) (hk : ∀ M', FrT M M' → TS M' b n (sk b n p) → kv M') : Bv (wX10_step M) kv := by
  apply Bv.of; unfold wX10_step
  exact ⟨n - p + 1, l_st0 (n - p) p M (by omega) hb h5 hk⟩
end Tok
