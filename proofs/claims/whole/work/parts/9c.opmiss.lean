/-! ===== the model's curve; miss: the op ===== -/
def LM (A : Int → Int) (k0 k1 z : Int) : Prop := (k0 ≤ z ∧ z ≤ k1) ∧ (∀ y, k0 ≤ y → y ≤ k1 → A z ≤ A y) ∧ ∀ y, k0 ≤ y → y < z → A z < A y
section Cu
variable {kv : Mm → Prop} {kk : Int → Mm → Prop} {bb : Mm} {A : Int → Int} {t : Dp} {K a b u k0 k1 : Int} {B : Int → Int} {s : Int} {S : Nat}
theorem LM.one {x y : Int} (h1 : LM A k0 k1 x) (h2 : LM A k0 k1 y) : x = y := by
  have a1 := h1.2.1 y h2.1.1 h2.1.2
  have a2 := h2.2.1 x h1.1.1 h1.1.2
  by_cases c : x < y
  · have := h2.2.2 x h1.1.1 c; omega
  · by_cases c2 : y < x
    · have := h1.2.2 y h2.1.1 c2; omega
    · omega
theorem lm_free (h : AR A t) (hb : Bnd t K) (hK : K < 1000000000) (hu : Um t.1 t.2.1 t.2.2 u) : LM A 0 1000 u := by
  have b1 := hb.1
  have b2 := hb.2.1
  have u1 := hu.1
  have hy := hb.2.2 u u1.1 u1.2
  have eu : A u = t.2.2 u := by rw [h u (by omega) (by omega), if_pos u1]
  refine ⟨by omega, fun y y1 y2 => ?_, fun y y1 y2 => ?_⟩
  · rw [eu, h y y1 y2]
    by_cases c : t.1 ≤ y ∧ y ≤ t.2.1
    · rw [if_pos c]; exact hu.least c.1 c.2
    · rw [if_neg c]; omega
  · rw [eu, h y y1 (by omega)]
    by_cases c : t.1 ≤ y ∧ y ≤ t.2.1
    · rw [if_pos c]; exact hu.down c.1 y2 (Int.le_refl _)
    · rw [if_neg c]; omega
theorem lm_win (h : AR A t) (hb : Bnd t K) (hK : K < 1000000000) (hu : Um t.1 t.2.1 t.2.2 u) (hab : a ≤ b) (hw : max t.1 a ≤ min t.2.1 b) : (t.1 ≤ min (max u a) b ∧ min (max u a) b ≤ t.2.1) ∧ max 0 a ≤ min b 1000 ∧ LM A (max 0 a) (min b 1000) (min (max u a) b) := by
  have b1 := hb.1
  have b2 := hb.2.1
  have u1 := hu.1
  have hd : t.1 ≤ min (max u a) b ∧ min (max u a) b ≤ t.2.1 := by omega
  refine ⟨hd, by omega, by omega, fun y y1 y2 => ?_, fun y y1 y2 => ?_⟩
  · have hy := hb.2.2 (min (max u a) b) hd.1 hd.2
    rw [h _ (by omega) (by omega), if_pos hd, h y (by omega) (by omega)]
    by_cases c : t.1 ≤ y ∧ y ≤ t.2.1
    · rw [if_pos c]
      by_cases c1 : u < a
      · rw [show min (max u a) b = a by omega]; exact hu.up (by omega) (by omega) c.2
      · by_cases c2 : u ≤ b
        · rw [show min (max u a) b = u by omega]; exact hu.least c.1 c.2
        · rw [show min (max u a) b = b by omega]
          by_cases c3 : y = b
          · rw [c3]; exact Int.le_refl _
          · have := hu.down (x := y) (y := b) c.1 (by omega) (by omega); omega
    · rw [if_neg c]; omega
  · have hy := hb.2.2 (min (max u a) b) hd.1 hd.2
    rw [h _ (by omega) (by omega), if_pos hd, h y (by omega) (by omega)]
    by_cases c : t.1 ≤ y ∧ y ≤ t.2.1
    · rw [if_pos c]
      by_cases c1 : u < a
      · omega
      · by_cases c2 : u ≤ b
        · rw [show min (max u a) b = u by omega]; exact hu.down c.1 (by omega) (Int.le_refl _)
        · rw [show min (max u a) b = b by omega]; exact hu.down c.1 (by omega) (by omega)
    · rw [if_neg c]; omega
theorem bw_win (h : BkR bb B) (hS : Lgs B s S) {d : Nat} {c : Int} (hd : d < 119) (hne : (bwB B s S (118 - d)).1 ≤ (bwB B s S (118 - d)).2.1) (hct : Cuts B s (d + 1) = 0) (hc : (bwB B s S (119 - d)).1 ≤ c ∧ c ≤ (bwB B s S (119 - d)).2.1) : max (bwB B s S (118 - d)).1 (c + Lw B s d) ≤ min (bwB B s S (118 - d)).2.1 (c + Hw B s d) := by
  have ebw := bw_step (B := B) (s := s) (S := S) hd
  have hl := LH (s := s) h d
  rw [ebw, hct] at hc
  generalize bwB B s S (118 - d) = T at *
  unfold stp at hc
  rw [if_neg (by omega), if_pos rfl] at hc
  have h1 : max (T.1 + -Hw B s d) 0 ≤ c := hc.1
  have h2 : c ≤ min (T.2.1 + -Lw B s d) (Cp B s d) := hc.2
  omega
theorem cv_dom (h : BkR bb B) (hS : Lgs B s S) {bt : Nat → Int} (hu : ∀ e : Nat, e < 120 → Um (bwB B s S (119 - e)).1 (bwB B s S (119 - e)).2.1 (bwB B s S (119 - e)).2.2 (bt e)) : ∀ d : Nat, d < 120 → (bwB B s S (119 - d)).1 ≤ cvR (Lw B s) (Hw B s) (Cuts B s) bt d ∧ cvR (Lw B s) (Hw B s) (Cuts B s) bt d ≤ (bwB B s S (119 - d)).2.1
  | 0, hd => (hu 0 hd).1
  | d + 1, hd => by
    have ih := cv_dom h hS hu d (by omega)
    have u1 := hu (d + 1) hd
    rw [cvR_succ]
    by_cases c : Cuts B s (d + 1) = 0
    · rw [if_pos c]
      have e : 119 - (d + 1) = 118 - d := by omega
      rw [e] at u1 ⊢
      have hl := LH (s := s) h d
      have w := bw_win h hS (show d < 119 by omega) (Int.le_trans u1.1.1 u1.1.2) c ih
      have u2 := u1.1
      omega
    · rw [if_neg c]; exact u1.1
theorem l_c323 {M : Mm} {Q : Int → Mm → Prop} {k213 : Int → Mm → Prop} {v3 v7 : Int} {d : Nat} (hd : d < 120) (hA : ∀ z, 0 ≤ z → z ≤ 1000 → 0 ≤ M 118 (1001 * (d : Int) + z) ∧ M 118 (1001 * (d : Int) + z) ≤ 1000000000) (h0 : 0 ≤ k0 ∧ k0 ≤ min v7 1000 ∧ v7 ≤ 100000) (hk : ∀ z, LM (fun z => M 118 (1001 * (d : Int) + z)) k0 (min v7 1000) z → k213 ((d : Int) + 1) (up M 122 (d : Int) z)) : ∀ (n : Nat) (v8 v9 : Int), v9 + (n : Int) = min v7 1000 + 1 → ((v9 = k0 ∧ v8 = -1) ∨ (k0 < v9 ∧ LM (fun z => M 118 (1001 * (d : Int) + z)) k0 (v9 - 1) v8)) → wX12_miss_323 Q k213 s v3 (d : Int) v7 (n + 1) v8 v9 M := by
  intro n
  induction n with
  | zero =>
    intro v8 v9 hn hv
    have done : wX12_miss_385 Q k213 s v3 (d : Int) v8 M := by
      unfold wX12_miss_385
      refine ⟨⟨by omega, by omega⟩, hk v8 ?_⟩
      rcases hv with ⟨e1, e2⟩ | ⟨e1, e2⟩
      · omega
      · rw [show v9 - 1 = min v7 1000 by omega] at e2; exact e2
    unfold wX12_miss_323
    refine ⟨(inRof ⟨by omega, by omega⟩), (inRof ⟨by omega, by omega⟩), ?_⟩
    by_cases c : v9 ≤ v7
    · rw [if_pos c, if_neg (by omega)]; exact done
    · rw [if_neg c]; exact done
  | succ n ih =>
    intro v8 v9 hn hv
    unfold wX12_miss_323
    have v90 : 0 ≤ v9 ∧ k0 ≤ v9 := by rcases hv with hv | hv <;> omega
    have a9 := hA v9 (by omega) (by omega)
    refine ⟨(inRof ⟨by omega, by omega⟩), (inRof ⟨by omega, by omega⟩), ?_⟩
    rw [if_pos (by omega), if_pos (by omega)]
    rcases hv with ⟨e1, e2⟩ | ⟨e1, e2⟩
    · subst e2
      refine ⟨(inRl (by decide)), ?_⟩
      rw [if_pos rfl]
      refine ih v9 (v9 + 1) (by omega) (Or.inr ⟨by omega, ⟨by omega, fun y y1 y2 => ?_, fun y y1 y2 => by omega⟩⟩)
      have : y = v9 := by omega
      rw [this]
      exact Int.le_refl _
    · obtain ⟨l1, l2, l3⟩ := e2
      have a8 := hA v8 (by omega) (by omega)
      refine ⟨(inRof ⟨by omega, by omega⟩), ?_⟩
      rw [if_neg (by omega)]
      refine ⟨⟨by omega, by omega⟩, ⟨by omega, by omega⟩, (inRof ⟨by omega, by omega⟩), (inRof ⟨by omega, by omega⟩), ?_⟩
      by_cases c : M 118 (1001 * (d : Int) + v9) < M 118 (1001 * (d : Int) + v8)
      · rw [if_pos c]
        refine ih v9 (v9 + 1) (by omega) (Or.inr ⟨by omega, ⟨by omega, fun y y1 y2 => ?_, fun y y1 y2 => ?_⟩⟩)
        · by_cases q : y = v9
          · rw [q]; exact Int.le_refl _
          · have l2 : M 118 (1001 * (d : Int) + v8) ≤ M 118 (1001 * (d : Int) + y) := l2 y y1 (by omega)
            show M 118 (1001 * (d : Int) + v9) ≤ M 118 (1001 * (d : Int) + y)
            omega
        · have l2 : M 118 (1001 * (d : Int) + v8) ≤ M 118 (1001 * (d : Int) + y) := l2 y y1 (by omega)
          show M 118 (1001 * (d : Int) + v9) < M 118 (1001 * (d : Int) + y)
          omega
      · rw [if_neg c]
        refine ih v8 (v9 + 1) (by omega) (Or.inr ⟨by omega, ⟨by omega, fun y y1 y2 => ?_, l3⟩⟩)
        by_cases q : y = v9
        · rw [q]
          show M 118 (1001 * (d : Int) + v8) ≤ M 118 (1001 * (d : Int) + v9)
          omega
        · exact l2 y y1 (by omega)
theorem l_c305 {M : Mm} {Q : Int → Mm → Prop} {k213 : Int → Mm → Prop} {v3 v6 v7 c : Int} {d : Nat} (hd : d < 120) (hA : ∀ z, 0 ≤ z → z ≤ 1000 → 0 ≤ M 118 (1001 * (d : Int) + z) ∧ M 118 (1001 * (d : Int) + z) ≤ 1000000000) (h6 : -100000 ≤ v6 ∧ v6 ≤ 100000) (h0 : max 0 v6 ≤ min v7 1000 ∧ v7 ≤ 100000) (hl : LM (fun z => M 118 (1001 * (d : Int) + z)) (max 0 v6) (min v7 1000) c) (hk : k213 ((d : Int) + 1) (up M 122 (d : Int) c)) : wX12_miss_305 Q k213 s v3 (d : Int) v6 v7 M := by
  unfold wX12_miss_305
  refine ⟨(inRof ⟨by omega, by omega⟩), ?_⟩
  by_cases q : v6 < 0
  · rw [if_pos q]
    rw [show max 0 v6 = 0 by omega] at hl h0
    exact ⟨_, l_c323 (k0 := 0) hd hA (by omega) (fun z hz => by rw [hz.one hl]; exact hk) (min v7 1000 + 1).toNat (-1) 0 (by omega) (Or.inl ⟨rfl, rfl⟩)⟩
  · rw [if_neg q]
    rw [show max 0 v6 = v6 by omega] at hl h0
    exact ⟨_, l_c323 (k0 := v6) hd hA (by omega) (fun z hz => by rw [hz.one hl]; exact hk) (min v7 1000 + 1 - v6).toNat (-1) v6 (by omega) (Or.inl ⟨rfl, rfl⟩)⟩
theorem l_c213 {Q : Int → Mm → Prop} {v3 : Int} {bt : Nat → Int} (hs : inR s) (h : BkR bb B) (hS : Lgs B s S) (hu : ∀ e : Nat, e < 120 → Um (bwB B s S (119 - e)).1 (bwB B s S (119 - e)).2.1 (bwB B s S (119 - e)).2.2 (bt e)) : ∀ (k d : Nat) (M : Mm), d + k = 120 → M 103 = B → BWm M B s S 0 → (∀ e : Nat, e < d → M 122 (e : Int) = cvR (Lw B s) (Hw B s) (Cuts B s) bt e) → (∀ M', (∀ c : Nat, c ≠ 122 → M' c = M c) → (∀ e : Nat, e < 120 → M' 122 (e : Int) = cvR (Lw B s) (Hw B s) (Cuts B s) bt e) → wX12_miss_400 Q v3 M') → wX12_miss_213 Q s v3 (k + 1) (d : Int) M := by
  intro k
  induction k with
  | zero =>
    intro d M hd hB hw h1 hk
    unfold wX12_miss_213
    refine ⟨(inRof ⟨by omega, by omega⟩), ?_⟩
    rw [if_neg (by omega)]
    exact hk M (fun _ _ => rfl) (fun e he => h1 e (by omega))
  | succ k ih =>
    intro d M hd hB hw h1 hk
    have kb := bw_K (s := s) h hS (k := 119 - d) (by omega)
    have aw := hw d (by omega) (by omega)
    have hA := aw.range kb (by omega)
    have hud := hu d (by omega)
    have go : wX12_miss_213 Q s v3 (k + 1) ((d : Int) + 1) (up M 122 (d : Int) (cvR (Lw B s) (Hw B s) (Cuts B s) bt d)) := by
      refine ih (d + 1) _ (by omega) (by rw [up_cell (by decide)]; exact hB) (fun e e1 e2 => by rw [up_cell (show 118 ≠ 122 by decide)]; exact hw e e1 e2) (fun e he => ?_) (fun M' k1 k2 => hk M' (fun c hc => by rw [k1 c hc, up_cell hc]) k2)
      by_cases q : e = d
      · rw [q, up_eq]
      · rw [up_nei (by omega)]; exact h1 e (by omega)
    have free : cvR (Lw B s) (Hw B s) (Cuts B s) bt d = bt d → wX12_miss_241 Q (wX12_miss_213 Q s v3 (k + 1)) s v3 (d : Int) 1 M := by
      intro ec
      unfold wX12_miss_241
      refine ⟨inR1, ?_⟩
      rw [if_neg (by decide)]
      unfold wX12_miss_272
      refine ⟨inR1, ?_⟩
      rw [if_neg (by decide)]
      refine l_c305 (c := bt d) (by omega) hA (by omega) (by omega) ?_ (by rw [← ec]; exact go)
      have := lm_free aw kb (by omega) hud
      exact this
    unfold wX12_miss_213
    refine ⟨(inRof ⟨by omega, by omega⟩), ?_⟩
    rw [if_pos (by omega)]
    by_cases c0 : d = 0
    · rw [if_pos (by omega)]
      refine free ?_
      rw [c0]
      rfl
    · rw [if_neg (by omega)]
      obtain ⟨d', ed⟩ : ∃ d', d = d' + 1 := ⟨d - 1, by omega⟩
      have lr := left_range (s := s) (d := (d : Int)) h
      refine b_left (by rw [hB]; exact h) hs (inRof ⟨by omega, by omega⟩) ?_
      rw [hB]
      refine ⟨(inRof ⟨by omega, by omega⟩), ?_⟩
      have ec : Cuts B s d = if left B s (d : Int) = -1 then 0 else 1 := cut_left
      by_cases c : left B s (d : Int) = -1
      · rw [if_pos c]
        rw [if_pos c] at ec
        have br := byT_range (s := s) (d := (d' : Int)) h
        have cd := cv_dom h hS hu d' (by omega)
        have kb' := bw_K (s := s) h hS (k := 119 - d') (by omega)
        have k1 := kb'.1
        have k2 := kb'.2.1
        have ecv : cvR (Lw B s) (Hw B s) (Cuts B s) bt d = min (max (bt d) (cvR (Lw B s) (Hw B s) (Cuts B s) bt d' + Lw B s d')) (cvR (Lw B s) (Hw B s) (Cuts B s) bt d' + Hw B s d') := by
          rw [ed, cvR_succ, if_pos (by rw [← ed]; exact ec)]
        have hne : (bwB B s S (118 - d')).1 ≤ (bwB B s S (118 - d')).2.1 := by
          rw [show 118 - d' = 119 - d by omega]
          exact Int.le_trans hud.1.1 hud.1.2
        have w := bw_win h hS (show d' < 119 by omega) hne (by rw [← ed]; exact ec) cd
        rw [show 118 - d' = 119 - d by omega] at w
        have win := lm_win aw kb (by omega) hud (by have := LH (s := s) h d'; omega) w
        have h122 : M 122 (d' : Int) = cvR (Lw B s) (Hw B s) (Cuts B s) bt d' := h1 d' (by omega)
        unfold wX12_miss_241
        refine ⟨inR0, ?_⟩
        rw [if_pos rfl, show (d : Int) - 1 = (d' : Int) by omega]
        refine ⟨⟨by omega, by omega⟩, b_byT (by rw [hB]; exact h) hs (inRof ⟨by omega, by omega⟩) (Or.inl rfl) ?_⟩
        unfold wX12_miss_272
        refine ⟨inR0, ?_⟩
        rw [if_pos rfl, show (d : Int) - 1 = (d' : Int) by omega]
        refine ⟨⟨by omega, by omega⟩, b_byT (by rw [hB]; exact h) hs (inRof ⟨by omega, by omega⟩) (Or.inr rfl) ?_⟩
        rw [hB, h122]
        have e0 : byT B s (d' : Int) 0 = Lw B s d' := rfl
        have e1 : byT B s (d' : Int) 1 = Hw B s d' := rfl
        rw [e0, e1]
        rw [e0, e1] at br
        refine l_c305 (c := cvR (Lw B s) (Hw B s) (Cuts B s) bt d) (by omega) hA (by omega) ⟨win.2.1, by omega⟩ ?_ go
        rw [ecv]
        exact win.2.2
      · rw [if_neg c]
        rw [if_neg c] at ec
        refine free ?_
        rw [ed, cvR_succ, if_neg (by rw [← ed, ec]; decide)]
theorem mvd_key {T : Dp} (hb : Bnd T 2400000) : ∃ r, mvd T = r ∧ inR r ∧ ((T.2.1 < T.1 ∧ ¬ r < 1000000000) ∨ (T.1 ≤ T.2.1 ∧ r = lst T ∧ r < 1000000000 ∧ (0 ≤ r ∧ r ≤ 2400000))) := by
  have mv := hb.mv
  refine ⟨mvd T, rfl, (inRof ⟨by omega, by omega⟩), ?_⟩
  unfold mvd
  by_cases e : T.2.1 < T.1
  · rw [if_pos e]; exact Or.inl ⟨e, by omega⟩
  · rw [if_neg e]
    have := hb.least (by omega)
    exact Or.inr ⟨by omega, rfl, by omega, this⟩
def FrB2 (M M' : Mm) : Prop := (∀ c : Nat, c ≠ 102 → c ≠ 117 → c ≠ 118 → c ≠ 119 → c ≠ 120 → c ≠ 122 → M' c = M c) ∧ ∀ i, i ≠ 38 → M' 102 i = M 102 i
theorem m_miss {M : Mm} {kn : Int} {bt : Nat → Int} (hB : M 103 = B) (h : BkR bb B) (ha : inR s) (hb : inR kn) (hbt : (0 ≤ s ∧ s < B 721) → (0 ≤ kn ∧ kn ≤ 119) → (bwB B s (cnt B s kn) 119).1 ≤ (bwB B s (cnt B s kn) 119).2.1 → ∀ e : Nat, e < 120 → Um (bwB B s (cnt B s kn) (119 - e)).1 (bwB B s (cnt B s kn) (119 - e)).2.1 (bwB B s (cnt B s kn) (119 - e)).2.2 (bt e)) (h1 : (0 ≤ s ∧ s < B 721) → (0 ≤ kn ∧ kn ≤ 119) → (bwB B s (cnt B s kn) 119).1 ≤ (bwB B s (cnt B s kn) 119).2.1 → (0 ≤ lst (bwB B s (cnt B s kn) 119) ∧ lst (bwB B s (cnt B s kn) 119) ≤ 2400000) → ∀ M', FrB2 M M' → M' 102 38 = 1 → (∀ e : Nat, e < 120 → M' 122 (e : Int) = cvR (Lw B s) (Hw B s) (Cuts B s) bt e) → kk (lst (bwB B s (cnt B s kn) 119)) M') (h2 : (0 ≤ s ∧ s < B 721) → (0 ≤ kn ∧ kn ≤ 119) → (bwB B s (cnt B s kn) 119).2.1 < (bwB B s (cnt B s kn) 119).1 → ∀ M' : Mm, (∀ c : Nat, c ≠ 117 → c ≠ 118 → c ≠ 119 → c ≠ 120 → M' c = M c) → kk (-1) M') (h0 : ¬ ((0 ≤ s ∧ s < B 721) ∧ (0 ≤ kn ∧ kn ≤ 119)) → kk (-1) M) : Bd (wX12_miss s kn M) kk := by
  have n0 := h.1.1
  apply Bd.of; unfold wX12_miss
  refine i_mShip ha (by rw [hB]; omega) (fun c1 => ?_) (fun q => h0 (fun z => q (by rw [hB]; exact z.1)))
  refine i_mDay hb (fun c2 => ?_) (fun q => h0 (fun z => q z.2))
  rw [hB] at c1
  have hS := cnt_lgs (s := s) h.1 kn
  refine b_cnt (by rw [hB]; exact h) ha hb ?_
  rw [hB]
  refine b_lays ha hB h hS (cnt_lt h.1) (fun M1 f1 hc1 => ⟨121, ?_⟩)
  have hB1 : M1 103 = B := by rw [f1 103 (by decide)]; exact hB
  refine l_m31all ha hB1 h hS hc1 (fun M2 f2 hw => ?_)
  have hB2 : M2 103 = B := by rw [f2 103 (by decide) (by decide) (by decide)]; exact hB1
  have hf : ∀ c : Nat, c ≠ 117 → c ≠ 118 → c ≠ 119 → c ≠ 120 → M2 c = M c := fun c a1 a2 a3 a4 => by rw [f2 c a2 a3 a4, f1 c a1]
  have kb := bw_K (s := s) h hS (k := 119) (Nat.le_refl _)
  have aw := hw 0 (Nat.le_refl _) (by omega)
  rw [Nat.sub_zero] at aw
  have ea : arr M2 0 = fun z => M2 118 (1001 * ((0 : Nat) : Int) + z) := by
    funext z
    unfold arr
    rw [if_neg (by decide), show 1001 * ((0 : Nat) : Int) = 0 by decide]
  have aw' : AR (arr M2 0) (bwB B s (cnt B s kn) 119) := by rw [ea]; exact aw
  unfold wX12_miss_195
  refine b_lo (Or.inr (by omega)) (aw'.range kb (by omega)) ?_
  rw [aw'.lo kb (by omega)]
  obtain ⟨r, er, hr, hr2⟩ := mvd_key kb
  rw [er]
  refine ⟨hr, ?_⟩
  rcases hr2 with ⟨q, ea2⟩ | ⟨ne, e2, e3, e4⟩
  · rw [if_neg ea2]
    exact h2 c1 c2 q M2 hf
  · rw [if_pos e3]
    refine ⟨121, l_c213 (bt := bt) ha h hS (hbt c1 c2 ne) 120 0 M2 (by omega) hB2 hw (fun e he => by omega) (fun M3 f3 h3 => ?_)⟩
    unfold wX12_miss_400
    rw [e2]
    rw [e2] at e4
    exact h1 c1 c2 ne e4 _ ⟨fun c a0 a1 a2 a3 a4 a5 => by rw [up_cell a0, f3 c a5, hf c a1 a2 a3 a4], fun i hi => by rw [up_nei hi, f3 102 (by decide), hf 102 (by decide) (by decide) (by decide) (by decide)]⟩ up_eq (fun e he => by rw [up_ne (by decide)]; exact h3 e he)
end Cu
section OpM
variable {M : Mm} {k : Mm → Prop} {a b : Int}
theorem op_miss (ha : inR a) (hb : inR b) (hI : Inv M) (hk : ∀ M, Inv M → k M) : Bd (wX11_miss a b M) (fun r1 M1 => Bd (wX12_miss a b M1) (fun r2 M2 => inR r1 ∧ inR r2 ∧ r1 = r2 ∧ k M2)) := by
  have hB := hI.1
  have n0 := hB.1.1
  have fin : ¬ ((0 ≤ a ∧ a < M 103 721) ∧ (0 ≤ b ∧ b ≤ 119)) → Bd (wX12_miss a b M) (fun r2 M2 => inR (-1) ∧ inR r2 ∧ -1 = r2 ∧ k M2) := fun q => m_miss (bt := fun _ => 0) rfl hB ha hb (fun q1 q2 => absurd ⟨q1, q2⟩ q) (fun q1 q2 => absurd ⟨q1, q2⟩ q) (fun q1 q2 => absurd ⟨q1, q2⟩ q) (fun _ => ⟨(inRl (by decide)), (inRl (by decide)), rfl, hk _ hI⟩)
  apply Bd.of; unfold wX11_miss
  refine i_isShip ha (by omega) (fun c1 => ?_) (fun q => fin (fun z => by omega))
  refine i_isDay hb (fun c2 => ?_) (fun q => fin (fun z => by omega))
  refine b_load hB (by omega) (fun M1 k1 k2 k3 k4 => ?_)
  have hS := cnt_lgs (s := a) hB.1 b
  refine b_cx k3 k4 hb ?_
  refine b_lm k3 k4 hS (cnt_lt hB.1) (fun ne M2 bt f2 hu h98 e7 e12 => ?_) (fun em M2 f2 => ?_)
  · have hf : ∀ c : Nat, c < 72 ∨ 98 < c → M2 c = M c := fun c hc => by rw [f2 c (by omega) (by omega) (by omega) (by omega) (by omega) (by omega) (by omega) (by omega), k1 c (by omega)]
    have hf2 : ∀ c : Nat, c ∈ [86, 87, 88, 89] → M2 c = M c := fun c hc => by
      have : ∀ c ∈ [86, 87, 88, 89], (c < 72 ∨ 80 < c) ∧ c ≠ 90 ∧ c ≠ 91 ∧ c ≠ 92 ∧ c ≠ 93 ∧ c ≠ 94 ∧ c ≠ 95 ∧ c ≠ 97 ∧ c ≠ 98 := by decide
      obtain ⟨x0, x1, x2, x3, x4, x5, x6, x7, x8⟩ := this c hc
      rw [f2 c x1 x2 x3 x4 x5 x6 x7 x8, k1 c x0]
    have cd := cv_dom hB hS hu
    refine m_miss (bt := bt) (hf 103 (by omega)) hB ha hb (fun _ _ _ => hu) (fun _ _ _ lr M3 f3 e38 h122 => ?_) (fun _ _ q => by exact absurd ne (Int.not_le.mpr q)) (fun z => absurd ⟨by omega, c2⟩ z)
    refine ⟨inRof ⟨Int.le_trans (by decide) lr.1, Int.le_trans lr.2 (by decide)⟩, inRof ⟨Int.le_trans (by decide) lr.1, Int.le_trans lr.2 (by decide)⟩, rfl, hk _ ?_⟩
    have hc : ∀ c : Nat, c < 72 ∨ 98 < c → c ≠ 102 → c ≠ 117 → c ≠ 118 → c ≠ 119 → c ≠ 120 → c ≠ 122 → M3 c = M c := fun c q a0 a1 a2 a3 a4 a5 => by rw [f3.1 c a0 a1 a2 a3 a4 a5, hf c q]
    have hcd : ∀ c : Nat, c ∈ [0, 71, 99, 100, 101, 103, 104, 105, 111, 114, 124, 125] → M3 c = M c := fun c hc' => by
      have : ∀ c ∈ [0, 71, 99, 100, 101, 103, 104, 105, 111, 114, 124, 125], (c < 72 ∨ 98 < c) ∧ c ≠ 102 ∧ c ≠ 117 ∧ c ≠ 118 ∧ c ≠ 119 ∧ c ≠ 120 ∧ c ≠ 122 := by decide
      obtain ⟨x0, x1, x2, x3, x4, x5, x6⟩ := this c hc'
      exact hc c x0 x1 x2 x3 x4 x5 x6
    have hcd2 : ∀ c : Nat, c ∈ [86, 87, 88, 89] → M3 c = M c := fun c hc' => by
      have : ∀ c ∈ [86, 87, 88, 89], c ≠ 102 ∧ c ≠ 117 ∧ c ≠ 118 ∧ c ≠ 119 ∧ c ≠ 120 ∧ c ≠ 122 := by decide
      obtain ⟨x1, x2, x3, x4, x5, x6⟩ := this c hc'
      rw [f3.1 c x1 x2 x3 x4 x5 x6, hf2 c hc']
    have h102 : ∀ i, i ≠ 38 → M3 102 i = M 102 i := fun i hi => by rw [f3.2 i hi, hf 102 (by omega)]
    obtain ⟨-, -, -, -, i5, i6, i7, i8, i9, i10, i11⟩ := id hI
    refine hI.rest (fun c g0 g1 => hc c (by omega) (by omega) (by omega) (by omega) (by omega) (by omega) (by omega)) (hcd 103 (by decide)) (hcd 104 (by decide)) (hcd 105 (by decide)) ?_ ?_ ?_ ?_ ?_ ?_ ?_
    · rw [hcd 0 (by decide), h102 0 (by decide)]; exact i5
    · rw [hcd 0 (by decide), h102 14 (by decide)]; exact i6
    · rw [hcd2 86 (by decide), hcd2 87 (by decide), h102 17 (by decide), hcd 111 (by decide)]; exact i7
    · rw [hcd2 88 (by decide), hcd2 89 (by decide), h102 25 (by decide), h102 29 (by decide), hcd 114 (by decide)]; exact i8
    · rw [e38, f3.1 90 (by decide) (by decide) (by decide) (by decide) (by decide) (by decide), f3.1 98 (by decide) (by decide) (by decide) (by decide) (by decide) (by decide), e7]
      refine ⟨Or.inr rfl, rfl, fun _ d d0 d1 => ?_⟩
      obtain ⟨e, ee⟩ : ∃ e : Nat, d = (e : Int) := ⟨d.toNat, by omega⟩
      subst ee
      have cde := cd e (by omega)
      have kb := bw_K (s := a) hB hS (k := 119 - e) (by omega)
      have kb1 := kb.1
      have kb2 := kb.2.1
      rw [h98 e (by omega), h122 e (by omega)]
      exact ⟨rfl, inRof ⟨by omega, by omega⟩⟩
    · rw [f3.1 90 (by decide) (by decide) (by decide) (by decide) (by decide) (by decide), hcd 99 (by decide), h102 41 (by decide), hcd 124 (by decide), e12, k1 90 (by omega)]; exact i10
    · rw [hcd 100 (by decide), hcd 101 (by decide), h102 47 (by decide), hcd 125 (by decide)]; exact i11
  · have hI2 : Inv M2 := by
      refine hI.fr2 (fun c i x1 x2 x3 x4 x5 => ?_)
      rw [f2 c (by rintro rfl; revert x1; decide) (by rintro rfl; revert x1; decide) (by rintro rfl; revert x1; decide) (by rintro rfl; revert x1; decide) (by rintro rfl; revert x1; decide) (by rintro rfl; revert x1; decide)]
      by_cases q : c < 72 ∨ 80 < c
      · rw [k1 c q]
      · have : ∀ c : Nat, c < 81 → 72 ≤ c → scr.contains c = true := by decide
        rw [this c (by omega) (by omega)] at x1
        exact absurd x1 (by decide)
    have e103 : M2 103 = M 103 := by rw [f2 103 (by decide) (by decide) (by decide) (by decide) (by decide) (by decide), k1 103 (by omega)]
    refine m_miss (bt := fun _ => 0) e103 hB ha hb (fun _ _ q => by exact absurd em (Int.not_lt.mpr q)) (fun _ _ q => by exact absurd em (Int.not_lt.mpr q)) (fun _ _ _ M3 f3 => ⟨(inRl (by decide)), (inRl (by decide)), rfl, hk _ ?_⟩) (fun z => absurd ⟨by omega, c2⟩ z)
    refine hI2.fr2 (fun c i x1 x2 x3 x4 x5 => ?_)
    rw [f3 c (by rintro rfl; revert x1; decide) (by rintro rfl; revert x1; decide) (by rintro rfl; revert x1; decide) (by rintro rfl; revert x1; decide)]
end OpM
