/-! ===== small methods, as rules; the invariant's words ===== -/
theorem inR1 : inR 1 := by unfold inR; omega
theorem inRof {x : Int} (h : -2147483648 ≤ x ∧ x ≤ 2147483647) : inR x := h
theorem inRlo {x : Int} (h : inR x) : -2147483648 ≤ x := h.1
theorem inRhi {x : Int} (h : inR x) : x ≤ 2147483647 := h.2
section Small
variable {M : Mm} {k : Int → Mm → Prop} {A B : Mm → Prop} {v lo hi : Int}
theorem tI1 (h : B M) : inR 1 ∧ (if (1 : Int) = 0 then A M else B M) := ⟨inR1, by rw [if_neg (by decide)]; exact h⟩
theorem tI0 (h : A M) : inR 0 ∧ (if (0 : Int) = 0 then A M else B M) := ⟨inR0, by rw [if_pos rfl]; exact h⟩
theorem b_within (hv : inR v) (hl : inR lo) (hh : inR hi) (h1 : lo ≤ v ∧ v ≤ hi → k 1 M) (h0 : ¬ (lo ≤ v ∧ v ≤ hi) → k 0 M) : Bd (wX11_within v lo hi M) k := by
  apply Bd.of
  unfold wX11_within
  refine ⟨hv, hl, ?_⟩
  by_cases c : v < lo
  · rw [if_pos c]; exact h0 (by omega)
  · rw [if_neg c]
    refine ⟨hh, ?_⟩
    by_cases c2 : v ≤ hi
    · rw [if_pos c2]; exact h1 ⟨by omega, c2⟩
    · rw [if_neg c2]; exact h0 (by omega)
theorem b_in (hv : inR v) (hl : inR lo) (hh : inR hi) (h1 : lo ≤ v ∧ v ≤ hi → k 1 M) (h0 : ¬ (lo ≤ v ∧ v ≤ hi) → k 0 M) : Bd (wX12_in v lo hi M) k := by
  apply Bd.of
  unfold wX12_in
  refine ⟨hv, hl, ?_⟩
  by_cases c : v < lo
  · rw [if_pos c]; exact h0 (by omega)
  · rw [if_neg c]
    refine ⟨hh, ?_⟩
    by_cases c2 : v ≤ hi
    · rw [if_pos c2]; exact h1 ⟨by omega, c2⟩
    · rw [if_neg c2]; exact h0 (by omega)
theorem b_isDay (hv : inR v) (h1 : 0 ≤ v ∧ v ≤ 119 → k 1 M) (h0 : ¬ (0 ≤ v ∧ v ≤ 119) → k 0 M) : Bd (wX11_isDay v M) k := by
  apply Bd.of
  unfold wX11_isDay
  exact b_within hv inR0 (inRl (by decide)) (fun c => ⟨Or.inr rfl, h1 c⟩) (fun c => ⟨Or.inl rfl, h0 c⟩)
theorem b_mDay (hv : inR v) (h1 : 0 ≤ v ∧ v ≤ 119 → k 1 M) (h0 : ¬ (0 ≤ v ∧ v ≤ 119) → k 0 M) : Bd (wX12_isDay v M) k := by
  apply Bd.of
  unfold wX12_isDay
  exact b_in hv inR0 (inRl (by decide)) (fun c => ⟨Or.inr rfl, h1 c⟩) (fun c => ⟨Or.inl rfl, h0 c⟩)
theorem b_isShip (hv : inR v) (hs : 0 ≤ M 1 0 ∧ M 1 0 ≤ 3) (h1 : 0 ≤ v ∧ v < M 1 0 → k 1 M) (h0 : ¬ (0 ≤ v ∧ v < M 1 0) → k 0 M) : Bd (wX11_isShip v M) k := by
  apply Bd.of
  unfold wX11_isShip
  exact b_within hv inR0 (inRof ⟨by omega, by omega⟩) (fun c => ⟨Or.inr rfl, h1 (by omega)⟩) (fun c => ⟨Or.inl rfl, h0 (by omega)⟩)
theorem b_isLog (hv : inR v) (hs : 0 ≤ M 15 0 ∧ M 15 0 ≤ 24) (h1 : 0 ≤ v ∧ v < M 15 0 → k 1 M) (h0 : ¬ (0 ≤ v ∧ v < M 15 0) → k 0 M) : Bd (wX11_isLog v M) k := by
  apply Bd.of
  unfold wX11_isLog
  exact b_within hv inR0 (inRof ⟨by omega, by omega⟩) (fun c => ⟨Or.inr rfl, h1 (by omega)⟩) (fun c => ⟨Or.inl rfl, h0 (by omega)⟩)
theorem b_many (hi : 0 ≤ v ∧ v ≤ 3) (h : k (M 103 (721 + v)) M) : Bd (wX12_many v M) k := by
  apply Bd.of
  unfold wX12_many
  exact ⟨⟨by omega, by omega⟩, h⟩
theorem b_mShip (hv : inR v) (hs : 0 ≤ M 103 721 ∧ M 103 721 ≤ 3) (h1 : 0 ≤ v ∧ v < M 103 721 → k 1 M) (h0 : ¬ (0 ≤ v ∧ v < M 103 721) → k 0 M) : Bd (wX12_isShip v M) k := by
  apply Bd.of
  unfold wX12_isShip
  refine b_many (by omega) ?_
  have e : (721 : Int) + 0 = 721 := by omega
  rw [e]
  exact b_in hv inR0 (inRof ⟨by omega, by omega⟩) (fun c => ⟨Or.inr rfl, h1 (by omega)⟩) (fun c => ⟨Or.inl rfl, h0 (by omega)⟩)
theorem b_mLog (hv : inR v) (hs : 0 ≤ M 103 724 ∧ M 103 724 ≤ 24) (h1 : 0 ≤ v ∧ v < M 103 724 → k 1 M) (h0 : ¬ (0 ≤ v ∧ v < M 103 724) → k 0 M) : Bd (wX12_isLog v M) k := by
  apply Bd.of
  unfold wX12_isLog
  refine b_many (by omega) ?_
  have e : (721 : Int) + 3 = 724 := by omega
  rw [e]
  exact b_in hv inR0 (inRof ⟨by omega, by omega⟩) (fun c => ⟨Or.inr rfl, h1 (by omega)⟩) (fun c => ⟨Or.inl rfl, h0 (by omega)⟩)
theorem b_legAt {i f x : Int} (hi : 0 ≤ i ∧ i < 60) (hf : 0 ≤ f ∧ f < 6) (hx : x = 23 + 6 * i + f) (h : k (M 103 x) M) : Bd (wX12_legAt i f M) k := by
  apply Bd.of
  unfold wX12_legAt
  subst hx
  exact ⟨⟨by omega, by omega⟩, h⟩
theorem b_clean {i f x : Int} (hi : 0 ≤ i ∧ i < 40) (hf : 0 ≤ f ∧ f < 3) (hx : x = 383 + 3 * i + f) (h : k (M 103 x) M) : Bd (wX12_clean i f M) k := by
  apply Bd.of
  unfold wX12_clean
  subst hx
  exact ⟨⟨by omega, by omega⟩, h⟩
theorem b_logAt {i f x : Int} (hi : 0 ≤ i ∧ i < 24) (hf : 0 ≤ f ∧ f < 9) (hx : x = 503 + 9 * i + f) (h : k (M 103 x) M) : Bd (wX12_logAt i f M) k := by
  apply Bd.of
  unfold wX12_logAt
  subst hx
  exact ⟨⟨by omega, by omega⟩, h⟩
theorem b_refuse (h : k v (up M 0 10 v)) : Bd (wX11_refuse v M) k := Bd.of h
theorem b_accept (h : k v (up M 0 10 0)) : Bd (wX11_accept v M) k := Bd.of h
theorem b_endsN (hv : -10 ≤ v ∧ v < 0) (h : k v (up M 102 0 v)) : Bd (wX12_ends v M) k := by
  apply Bd.of
  unfold wX12_ends
  exact ⟨inRof ⟨by omega, by omega⟩, by rw [if_pos hv.2]; exact h⟩
theorem b_endsP (hv : 0 ≤ v ∧ v ≤ 2147483647) (h : k v (up M 102 0 0)) : Bd (wX12_ends v M) k := by
  apply Bd.of
  unfold wX12_ends
  exact ⟨inRof ⟨by omega, by omega⟩, by rw [if_neg (by omega)]; exact h⟩
theorem b_max {a b : Int} (ha : inR a) (hb : inR b) (h : k (max a b) M) : Bd (wJ9_max_7cf53 a b M) k := by
  apply Bd.of
  unfold wJ9_max_7cf53
  refine ⟨ha, hb, ?_⟩
  by_cases c : a < b
  · rw [if_pos c]; rw [show max a b = b by omega] at h; exact h
  · rw [if_neg c]; rw [show max a b = a by omega] at h; exact h
theorem b_min {a b : Int} (ha : inR a) (hb : inR b) (h : k (min a b) M) : Bd (wJ9_min_7cf53 a b M) k := by
  apply Bd.of
  unfold wJ9_min_7cf53
  refine ⟨ha, hb, ?_⟩
  by_cases c : a ≤ b
  · rw [if_pos c]; rw [show min a b = a by omega] at h; exact h
  · rw [if_neg c]; rw [show min a b = b by omega] at h; exact h
end Small
section SmallI
variable {M : Mm} {A B : Mm → Prop} {v lo hi : Int}
/-! the same, with the test behind them -/
theorem i_within (hv : inR v) (hl : inR lo) (hh : inR hi) (h1 : lo ≤ v ∧ v ≤ hi → B M) (h0 : ¬ (lo ≤ v ∧ v ≤ hi) → A M) : Bd (wX11_within v lo hi M) (fun r M => inR r ∧ (if r = 0 then A M else B M)) := b_within hv hl hh (fun c => tI1 (h1 c)) (fun c => tI0 (h0 c))
theorem i_in (hv : inR v) (hl : inR lo) (hh : inR hi) (h1 : lo ≤ v ∧ v ≤ hi → B M) (h0 : ¬ (lo ≤ v ∧ v ≤ hi) → A M) : Bd (wX12_in v lo hi M) (fun r M => inR r ∧ (if r = 0 then A M else B M)) := b_in hv hl hh (fun c => tI1 (h1 c)) (fun c => tI0 (h0 c))
theorem i_isDay (hv : inR v) (h1 : 0 ≤ v ∧ v ≤ 119 → B M) (h0 : ¬ (0 ≤ v ∧ v ≤ 119) → A M) : Bd (wX11_isDay v M) (fun r M => inR r ∧ (if r = 0 then A M else B M)) := b_isDay hv (fun c => tI1 (h1 c)) (fun c => tI0 (h0 c))
theorem i_mDay (hv : inR v) (h1 : 0 ≤ v ∧ v ≤ 119 → B M) (h0 : ¬ (0 ≤ v ∧ v ≤ 119) → A M) : Bd (wX12_isDay v M) (fun r M => inR r ∧ (if r = 0 then A M else B M)) := b_mDay hv (fun c => tI1 (h1 c)) (fun c => tI0 (h0 c))
theorem i_isShip (hv : inR v) (hs : 0 ≤ M 1 0 ∧ M 1 0 ≤ 3) (h1 : 0 ≤ v ∧ v < M 1 0 → B M) (h0 : ¬ (0 ≤ v ∧ v < M 1 0) → A M) : Bd (wX11_isShip v M) (fun r M => inR r ∧ (if r = 0 then A M else B M)) := b_isShip hv hs (fun c => tI1 (h1 c)) (fun c => tI0 (h0 c))
theorem i_mShip (hv : inR v) (hs : 0 ≤ M 103 721 ∧ M 103 721 ≤ 3) (h1 : 0 ≤ v ∧ v < M 103 721 → B M) (h0 : ¬ (0 ≤ v ∧ v < M 103 721) → A M) : Bd (wX12_isShip v M) (fun r M => inR r ∧ (if r = 0 then A M else B M)) := b_mShip hv hs (fun c => tI1 (h1 c)) (fun c => tI0 (h0 c))
theorem i_isLog (hv : inR v) (hs : 0 ≤ M 15 0 ∧ M 15 0 ≤ 24) (h1 : 0 ≤ v ∧ v < M 15 0 → B M) (h0 : ¬ (0 ≤ v ∧ v < M 15 0) → A M) : Bd (wX11_isLog v M) (fun r M => inR r ∧ (if r = 0 then A M else B M)) := b_isLog hv hs (fun c => tI1 (h1 c)) (fun c => tI0 (h0 c))
theorem i_mLog (hv : inR v) (hs : 0 ≤ M 103 724 ∧ M 103 724 ≤ 24) (h1 : 0 ≤ v ∧ v < M 103 724 → B M) (h0 : ¬ (0 ≤ v ∧ v < M 103 724) → A M) : Bd (wX12_isLog v M) (fun r M => inR r ∧ (if r = 0 then A M else B M)) := b_mLog hv hs (fun c => tI1 (h1 c)) (fun c => tI0 (h0 c))
end SmallI
