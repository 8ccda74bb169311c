/-! ===== the model's runs ===== -/
def tpB (B : Int → Int) (s : Int) (a : Nat) : Int := if a = 0 then Cp B s 0 else 0
def FrR (M M' : Mm) : Prop := ∀ c : Nat, c ≠ 119 → c ≠ 120 → c ≠ 121 → c ≠ 123 → M' c = M c
def LBr (M : Mm) (B : Int → Int) (s : Int) (S a e0 : Nat) : Prop := ∀ d : Nat, a ≤ d → d < e0 → M 121 (120 * (a : Int) + (d : Int)) = mvd (fwB B s S a (tpB B s a) (d - a))
section Ru
variable {kv : Mm → Prop} {kk : Int → Mm → Prop} {M M' bb : Mm} {B : Int → Int} {s : Int} {S : Nat}
theorem FrR.refl : FrR M M := fun _ _ _ _ _ => rfl
theorem FrR.trans {M2 : Mm} (h1 : FrR M M') (h2 : FrR M' M2) : FrR M M2 := fun c a b d e => (h2 c a b d e).trans (h1 c a b d e)
theorem FrR.cm (f : FrR M M') (h : CM M B s S) : CM M' B s S := fun d hd z z1 z2 => by rw [f 117 (by decide) (by decide) (by decide) (by decide)]; exact h d hd z z1 z2
theorem tp_range (h : BkR bb B) {a : Nat} : 0 ≤ tpB B s a ∧ tpB B s a ≤ 1000 := by
  unfold tpB
  split
  · exact cap_range h
  · omega
theorem arr1 : arr M (-1) = M 123 := by
  funext z
  unfold arr
  rw [if_pos (by decide)]
theorem l_r146 {Q : Mm → Prop} {k73 : Int → Mm → Prop} {a d : Nat} {v5 s0 : Int} {val : Int → Int} (hd : d < 120) (h : BkR bb B) (hS : Lgs B s S) (hv : ∀ z, 0 ≤ z → z ≤ 1000 → inR (val z)) : ∀ (k i : Nat) (M : Mm), i + k = 1001 → CM M B s S → ((s0 = 0 ∧ ∀ z, 0 ≤ z → z ≤ 1000 → M 119 z = val z) ∨ (s0 = 1 ∧ ∀ z, val z = v5)) → (∀ z : Int, 0 ≤ z → z < (i : Int) → M 123 z = a2 (M 117 (1001 * (d : Int) + z)) (val z)) → (∀ M' : Mm, (∀ c : Nat, c ≠ 123 → M' c = M c) → (∀ z : Int, 0 ≤ z → z ≤ 1000 → M' 123 z = a2 (M 117 (1001 * (d : Int) + z)) (val z)) → wX12_runs_201 Q k73 s (a : Int) (d : Int) M') → wX12_runs_146 Q k73 s (a : Int) (d : Int) v5 s0 (k + 1) (i : Int) M := by
  intro k
  induction k with
  | zero =>
    intro i M hi hc hw h1 hk
    unfold wX12_runs_146
    refine ⟨(inRof ⟨by omega, by omega⟩), ?_⟩
    rw [if_neg (by omega)]
    exact hk M (fun _ _ => rfl) (fun z z1 z2 => h1 z z1 (by omega))
  | succ k ih =>
    intro i M hi hc hw h1 hk
    have cr := hc.range h hS hd (z := (i : Int)) (by omega)
    have hvi := hv (i : Int) (by omega) (by omega)
    unfold wX12_runs_146
    refine ⟨(inRof ⟨by omega, by omega⟩), ?_⟩
    rw [if_pos (by omega)]
    have go : ∀ x : Int, x = a2 (M 117 (1001 * (d : Int) + (i : Int))) (val (i : Int)) → wX12_runs_146 Q k73 s (a : Int) (d : Int) v5 s0 (k + 1) ((i : Int) + 1) (up M 123 (i : Int) x) := by
      intro x hx
      refine ih (i + 1) _ (by omega) (fun e he y y1 y2 => by rw [up_ne (by decide)]; exact hc e he y y1 y2) (by rw [up_cell (show 119 ≠ 123 by decide)]; exact hw) (fun y y1 y2 => ?_) (fun M' k1 k2 => hk M' (fun c hc => by rw [k1 c hc, up_cell hc]) (fun y y1 y2 => by rw [k2 y y1 y2, up_ne (by decide)]))
      rw [up_ne (show 117 ≠ 123 by decide)]
      by_cases c : y = (i : Int)
      · rw [c, up_eq]; exact hx
      · rw [up_nei (by omega)]; exact h1 y y1 (by omega)
    rcases hw with ⟨w1, w2⟩ | ⟨w1, w2⟩
    · subst w1
      refine ⟨⟨by omega, by omega⟩, (inRl (by decide)), ?_⟩
      rw [if_pos rfl, w2 _ (by omega) (by omega)]
      exact ⟨⟨by omega, by omega⟩, b_adds2 cr hvi (go _ rfl)⟩
    · subst w1
      refine ⟨⟨by omega, by omega⟩, (inRl (by decide)), ?_⟩
      rw [if_neg (by decide)]
      have ev : v5 = val (i : Int) := (w2 _).symm
      rw [ev]
      rw [ev] at go
      exact b_adds2 cr hvi ⟨⟨by omega, by omega⟩, go _ rfl⟩
theorem l_r73 {Q : Mm → Prop} {a : Nat} (hs : inR s) (h : BkR bb B) (hS : Lgs B s S) : ∀ (k d : Nat) (M : Mm), d + 1 + k = 120 → a ≤ d → M 103 = B → CM M B s S → AR (M 123) (fwB B s S a (tpB B s a) (d - a)) → LBr M B s S a (d + 1) → (∀ M', FrR M M' → LBr M' B s S a 120 → (∀ x : Int, x < 120 * (a : Int) ∨ 120 * (a : Int) + 119 < x → M' 121 x = M 121 x) → Q M') → wX12_runs_73 Q s (a : Int) (k + 1) ((d : Int) + 1) M := by
  intro k
  induction k with
  | zero =>
    intro d M hd had hB hc hA hl hk
    unfold wX12_runs_73
    refine ⟨(inRof ⟨by omega, by omega⟩), ?_⟩
    rw [if_neg (by omega)]
    refine hk M FrR.refl ?_ (fun _ _ => rfl)
    rw [show (120 : Nat) = d + 1 by omega]
    exact hl
  | succ k ih =>
    intro d M hd had hB hc hA hl hk
    have tr := tp_range (s := s) h (a := a)
    have kb := fw_K (s := s) h hS (e := a) (k := d - a) tr.2
    have kb1 := fw_K (s := s) h hS (e := a) (k := d - a + 1) tr.2
    have br := byT_range (s := s) (d := (d : Int)) h
    have lr := left_range (s := s) (d := (d : Int) + 1) h
    have hA' : AR (arr M (-1)) (fwB B s S a (tpB B s a) (d - a)) := by rw [arr1]; exact hA
    have rng := hA'.range kb (by omega)
    have ec : Cuts B s (d + 1) = if left B s ((d : Int) + 1) = -1 then 0 else 1 := by
      rw [cut_left, show ((d + 1 : Nat) : Int) = (d : Int) + 1 by omega]
    have efw : fwB B s S a (tpB B s a) (d - a + 1) = adc (stp (fwB B s S a (tpB B s a) (d - a)) (Lw B s d) (Hw B s d) (Cp B s (d + 1)) (Cuts B s (d + 1))) (co B S (d + 1)) := by
      rw [fw_step, show a + (d - a) = d by omega]
    have fin : ∀ (M1 : Mm) (val : Int → Int), (∀ c : Nat, c ≠ 119 → c ≠ 120 → M1 c = M c) → AR (fun z => a2 (M 117 (1001 * ((d + 1 : Nat) : Int) + z)) (val z)) (fwB B s S a (tpB B s a) (d - a + 1)) → ∀ M' : Mm, (∀ c : Nat, c ≠ 123 → M' c = M1 c) → (∀ z : Int, 0 ≤ z → z ≤ 1000 → M' 123 z = a2 (M1 117 (1001 * ((d + 1 : Nat) : Int) + z)) (val z)) → wX12_runs_201 Q (wX12_runs_73 Q s (a : Int) (k + 1)) s (a : Int) ((d + 1 : Nat) : Int) M' := by
      intro M1 val f1 hAR M2 g1 g3
      have hA2 : AR (M2 123) (fwB B s S a (tpB B s a) (d - a + 1)) := fun z z1 z2 => by
        rw [g3 z z1 z2, f1 117 (by decide) (by decide)]
        exact hAR z z1 z2
      have hA2' : AR (arr M2 (-1)) (fwB B s S a (tpB B s a) (d - a + 1)) := by rw [arr1]; exact hA2
      have f2 : ∀ c : Nat, c ≠ 119 → c ≠ 120 → c ≠ 123 → M2 c = M c := fun c c1 c2 c3 => by rw [g1 c c3, f1 c c1 c2]
      unfold wX12_runs_201
      refine b_lo (Or.inl rfl) (hA2'.range kb1 (by omega)) ?_
      rw [hA2'.lo kb1 (by omega)]
      refine ⟨⟨by omega, by omega⟩, ?_⟩
      have f3 : FrR M (up M2 121 (120 * (a : Int) + ((d + 1 : Nat) : Int)) (mvd (fwB B s S a (tpB B s a) (d - a + 1)))) := fun c c1 c2 c3 c4 => by rw [up_cell c3, f2 c c1 c2 c4]
      refine ih (d + 1) _ (by omega) (by omega) (by rw [f3 103 (by decide) (by decide) (by decide) (by decide)]; exact hB) (f3.cm hc) ?_ (fun e e1 e2 => ?_) (fun M4 f4 l4 x4 => hk M4 (f3.trans f4) l4 (fun x hx => by rw [x4 x hx, up_nei (by omega), f2 121 (by decide) (by decide) (by decide)]))
      · rw [up_cell (show 123 ≠ 121 by decide), show d + 1 - a = d - a + 1 by omega]
        exact hA2
      · by_cases q : e = d + 1
        · rw [q, up_eq, show d + 1 - a = d - a + 1 by omega]
        · rw [up_nei (by omega), f2 121 (by decide) (by decide) (by decide)]; exact hl e e1 (by omega)
    unfold wX12_runs_73
    refine ⟨(inRof ⟨by omega, by omega⟩), ?_⟩
    rw [if_pos (by omega)]
    refine b_left (by rw [hB]; exact h) hs (inRof ⟨by omega, by omega⟩) ?_
    rw [hB]
    refine ⟨(inRof ⟨by omega, by omega⟩), ?_⟩
    rw [show (d : Int) + 1 = ((d + 1 : Nat) : Int) by omega] at ec ⊢
    by_cases c : left B s ((d + 1 : Nat) : Int) = -1
    · rw [if_pos c]
      rw [if_pos c] at ec
      unfold wX12_runs_99
      refine ⟨(inRl (by decide)), ?_⟩
      rw [if_pos rfl, show ((d + 1 : Nat) : Int) - 1 = (d : Int) by omega]
      have hr1 : BkR bb (M 103) := by rw [hB]; exact h
      refine b_byT hr1 hs (inRof ⟨by omega, by omega⟩) (Or.inr rfl) (b_byT hr1 hs (inRof ⟨by omega, by omega⟩) (Or.inl rfl) ?_)
      rw [hB]
      refine b_slides (Or.inl rfl) rng (by omega) (fun M1 f1 hr => ?_)
      have hcm1 : CM M1 B s S := fun e he z z1 z2 => by rw [f1 117 (by decide) (by decide)]; exact hc e he z z1 z2
      refine ⟨1002, l_r146 (B := B) (s := s) (S := S) (val := M1 119) (by omega) h hS (fun z z1 z2 => ?_) 1001 0 M1 (by omega) hcm1 (Or.inl ⟨rfl, fun z _ _ => rfl⟩) (fun z z1 z2 => by omega) (fin M1 (M1 119) f1 ?_)⟩
      · have v := (hr z z1 z2).val hA' kb (by omega) ⟨z1, z2⟩
        rw [v]
        by_cases c2 : max (fwB B s S a (tpB B s a) (d - a)).1 (z + -byT B s (d : Int) 1) ≤ min (fwB B s S a (tpB B s a) (d - a)).2.1 (z + -byT B s (d : Int) 0)
        · rw [if_pos c2]
          obtain ⟨⟨y, y1, y2, y3⟩, -⟩ := mnI_spec (f := (fwB B s S a (tpB B s a) (d - a)).2.2) c2
          have := kb.2.2 y (by omega) (by omega)
          exact (inRof ⟨by omega, by omega⟩)
        · rw [if_neg c2]; exact (inRl (by decide))
      · rw [efw, ec]
        refine AR_free kb (co_C h hS) (by omega) (by unfold Hw Lw; omega) (fun z z1 z2 => ?_)
        have v := (hr z z1 z2).val hA' kb (by omega) ⟨z1, z2⟩
        rw [hc (d + 1) (by omega) z z1 z2, v, show z - Lw B s d = z + -byT B s (d : Int) 0 by unfold Lw; omega, show z - Hw B s d = z + -byT B s (d : Int) 1 by unfold Hw; omega]
    · rw [if_neg c]
      rw [if_neg c] at ec
      unfold wX12_runs_99
      refine ⟨(inRl (by decide)), ?_⟩
      rw [if_neg (by decide)]
      refine b_lo (Or.inl rfl) rng ?_
      rw [hA'.lo kb (by omega)]
      have mv := kb.mv
      refine ⟨1002, l_r146 (B := B) (s := s) (S := S) (val := fun _ => mvd (fwB B s S a (tpB B s a) (d - a))) (by omega) h hS (fun z z1 z2 => (inRof ⟨by omega, by omega⟩)) 1001 0 M (by omega) hc (Or.inr ⟨rfl, fun z => rfl⟩) (fun z z1 z2 => by omega) (fin M _ (fun _ _ _ => rfl) ?_)⟩
      rw [efw, ec]
      refine AR_cut kb (co_C h hS) (by omega) (by decide) (fun z z1 z2 => ?_)
      rw [hc (d + 1) (by omega) z z1 z2]
theorem l_r3 {Q : Mm → Prop} {a : Nat} {v3 : Int} (ha : a < 120) (hv : (a = 0 ∧ v3 = 0) ∨ (a ≠ 0 ∧ v3 = 1)) (h : BkR bb B) : ∀ (k i : Nat) (M : Mm), i + k = 1001 → CM M B s S → (∀ z : Int, 0 ≤ z → z < (i : Int) → M 123 z = if z ≤ tpB B s a then co B S a z else 1000000000) → (∀ M' : Mm, (∀ c : Nat, c ≠ 123 → M' c = M c) → AR (M' 123) (fwB B s S a (tpB B s a) 0) → wX12_runs_52 Q s (a : Int) M') → wX12_runs_3 Q s (a : Int) v3 (k + 1) (i : Int) M := by
  intro k
  induction k with
  | zero =>
    intro i M hi hc h1 hk
    unfold wX12_runs_3
    refine ⟨(inRof ⟨by omega, by omega⟩), ?_⟩
    rw [if_neg (by omega)]
    refine hk M (fun _ _ => rfl) (fun z z1 z2 => ?_)
    show M 123 z = if (0 : Int) ≤ z ∧ z ≤ tpB B s a then co B S a z else 1000000000
    rw [h1 z z1 (by omega)]
    by_cases c : z ≤ tpB B s a
    · rw [if_pos c, if_pos ⟨z1, c⟩]
    · rw [if_neg c, if_neg (fun y => c y.2)]
  | succ k ih =>
    intro i M hi hc h1 hk
    unfold wX12_runs_3
    refine ⟨(inRof ⟨by omega, by omega⟩), ?_⟩
    rw [if_pos (by omega)]
    have cap := cap_range (s := s) (d := (a : Int)) h
    have cm := hc a ha (i : Int) (by omega) (by omega)
    have go : ∀ x : Int, x = (if (i : Int) ≤ tpB B s a then co B S a (i : Int) else 1000000000) → wX12_runs_3 Q s (a : Int) v3 (k + 1) ((i : Int) + 1) (up M 123 (i : Int) x) := by
      intro x hx
      refine ih (i + 1) _ (by omega) (fun e he y y1 y2 => by rw [up_ne (by decide)]; exact hc e he y y1 y2) (fun y y1 y2 => ?_) (fun M' k1 k2 => hk M' (fun c hc => by rw [k1 c hc, up_cell hc]) k2)
      by_cases c : y = (i : Int)
      · rw [c, up_eq]; exact hx
      · rw [up_nei (by omega)]; exact h1 y y1 (by omega)
    have s32 : M 117 (1001 * (a : Int) + (i : Int)) = (if (i : Int) ≤ tpB B s a then co B S a (i : Int) else 1000000000) → wX12_runs_32 Q (wX12_runs_3 Q s (a : Int) v3 (k + 1)) s (a : Int) v3 (i : Int) (i : Int) M := by
      intro e
      unfold wX12_runs_32
      exact ⟨⟨by omega, by omega⟩, ⟨by omega, by omega⟩, go _ e⟩
    rcases hv with ⟨v1, v2⟩ | ⟨v1, v2⟩
    · refine ⟨(inRof ⟨by omega, by omega⟩), ?_⟩
      rw [if_pos v2]
      refine s32 ?_
      rw [cm]
      unfold tpB
      rw [if_pos v1, v1]
    · refine ⟨(inRof ⟨by omega, by omega⟩), ?_⟩
      rw [if_neg (by omega)]
      have et : tpB B s a = 0 := by unfold tpB; rw [if_neg v1]
      by_cases c : (i : Int) ≤ 0
      · rw [if_pos c]
        refine s32 ?_
        have cap' : 0 ≤ Cp B s a := cap.1
        rw [cm, et, if_pos (by omega), if_pos c]
      · rw [if_neg c]
        refine ⟨⟨by omega, by omega⟩, go _ ?_⟩
        rw [et, if_neg c]
theorem b_runs {a : Nat} {v3 : Int} (ha : a < 120) (hv : (a = 0 ∧ v3 = 0) ∨ (a ≠ 0 ∧ v3 = 1)) (hs : inR s) (hB : M 103 = B) (h : BkR bb B) (hS : Lgs B s S) (hc : CM M B s S) (hk : ∀ M', FrR M M' → LBr M' B s S a 120 → (∀ x : Int, x < 120 * (a : Int) ∨ 120 * (a : Int) + 119 < x → M' 121 x = M 121 x) → kv M') : Bv (wX12_runs s (a : Int) v3 M) kv := by
  apply Bv.of; unfold wX12_runs
  refine ⟨1002, l_r3 (B := B) (s := s) (S := S) ha hv h 1001 0 M (by omega) hc (fun z z1 z2 => by omega) (fun M1 f1 hA => ?_)⟩
  have tr := tp_range (s := s) h (a := a)
  have kb := fw_K (s := s) h hS (e := a) (k := 0) tr.2
  have hA' : AR (arr M1 (-1)) (fwB B s S a (tpB B s a) 0) := by rw [arr1]; exact hA
  unfold wX12_runs_52
  refine b_lo (Or.inl rfl) (hA'.range kb (by omega)) ?_
  rw [hA'.lo kb (by omega)]
  refine ⟨⟨by omega, by omega⟩, 120 - a, ?_⟩
  have f2 : FrR M (up M1 121 (120 * (a : Int) + (a : Int)) (mvd (fwB B s S a (tpB B s a) 0))) := fun c c1 c2 c3 c4 => by rw [up_cell c3, f1 c c4]
  have key := l_r73 (B := B) (s := s) (S := S) (a := a) (Q := kv) hs h hS (119 - a) a (up M1 121 (120 * (a : Int) + (a : Int)) (mvd (fwB B s S a (tpB B s a) 0))) (by omega) (Nat.le_refl _) (by rw [f2 103 (by decide) (by decide) (by decide) (by decide)]; exact hB) (f2.cm hc) ?_ (fun e e1 e2 => ?_) (fun M4 f4 l4 x4 => hk M4 (f2.trans f4) l4 (fun x hx => by rw [x4 x hx, up_nei (by omega), f1 121 (by decide)]))
  · rw [show 119 - a + 1 = 120 - a by omega] at key
    exact key
  · rw [up_cell (show 123 ≠ 121 by decide), Nat.sub_self]
    exact hA
  · have : e = a := by omega
    rw [this, up_eq, Nat.sub_self]
end Ru
