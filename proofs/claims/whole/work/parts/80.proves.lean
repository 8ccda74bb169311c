/-! ===== the model's proof: groups ===== -/
theorem i2b_small : ∀ n : Nat, n < 128 → i2bI (n : Int) = (n : Int) := by decide +kernel
theorem i2b_id {x : Int} (h : 0 ≤ x ∧ x ≤ 127) : i2bI x = x := by
  obtain ⟨n, hn⟩ := Int.eq_ofNat_of_zero_le h.1
  have hn' : x = (n : Int) := hn
  rw [hn']
  exact i2b_small n (by omega)
def PM (M : Mm) (L : List Int) : Prop := M 102 18 = (L.length : Int) ∧ ∀ i : Nat, i < L.length → i < 2000 → M 112 (i : Int) = L.getD i 0
def FrQ (M M' : Mm) : Prop := (∀ c : Nat, c ≠ 102 → c ≠ 112 → c ≠ 113 → M' c = M c) ∧ ∀ i, i ≠ 18 → i ≠ 21 → M' 102 i = M 102 i
theorem FrQ.refl {M : Mm} : FrQ M M := ⟨fun _ _ _ _ => rfl, fun _ _ _ => rfl⟩
theorem FrQ.trans {M M1 M2 : Mm} (h1 : FrQ M M1) (h2 : FrQ M1 M2) : FrQ M M2 := ⟨fun c a b d => (h2.1 c a b d).trans (h1.1 c a b d), fun i a b => (h2.2 i a b).trans (h1.2 i a b)⟩
/-- puts leave the groups as they are -/
def FrW (M M' : Mm) : Prop := (∀ c : Nat, c ≠ 102 → c ≠ 112 → M' c = M c) ∧ ∀ i, i ≠ 18 → M' 102 i = M 102 i
theorem FrW.refl {M : Mm} : FrW M M := ⟨fun _ _ _ => rfl, fun _ _ => rfl⟩
theorem FrW.trans {M M1 M2 : Mm} (h1 : FrW M M1) (h2 : FrW M1 M2) : FrW M M2 := ⟨fun c a b => (h2.1 c a b).trans (h1.1 c a b), fun i a => (h2.2 i a).trans (h1.2 i a)⟩
theorem FrW.toQ {M M' : Mm} (h : FrW M M') : FrQ M M' := ⟨fun c a b _ => h.1 c a b, fun i a _ => h.2 i a⟩
section Puts
variable {kv : Mm → Prop} {kk : Int → Mm → Prop} {g : Nat → Nat} {wt : Nat → Int} {U O : Nat}
set_option maxRecDepth 100000 in
theorem b_puts {M : Mm} {L : List Int} {x : Int} (h : PM M L) (hx : 0 ≤ x ∧ x ≤ 127) (hl : L.length ≤ 10000) (hk : ∀ M', FrW M M' → PM M' (L ++ [x]) → kv M') : Bv (wX12_puts x M) kv := by
  obtain ⟨h1, h3⟩ := h
  have el : (L ++ [x]).length = L.length + 1 := by rw [List.length_append]; rfl
  apply Bv.of; unfold wX12_puts
  rw [h1, i2b_id hx, i2b_id hx]
  refine ⟨(inRof ⟨by omega, by omega⟩), ?_⟩
  by_cases q : L.length < 2000
  · rw [if_pos (by omega)]
    refine ⟨⟨by omega, by omega⟩, hk _ ⟨fun c a b => by rw [up_cell a, up_cell b], fun i a => by rw [up_nei a, up_ne (by decide)]⟩ ⟨by rw [up_eq, el]; omega, fun i hi hi2 => ?_⟩⟩
    rw [up_ne (by decide), getD_app]
    by_cases e : i = L.length
    · rw [e, up_eq, if_neg (by omega), if_pos rfl]
    · rw [up_nei (by omega), if_pos (by omega)]; exact h3 i (by omega) hi2
  · rw [if_neg (by omega)]
    refine hk _ ⟨fun c a b => up_cell a, fun i a => up_nei a⟩ ⟨by rw [up_eq, el]; omega, fun i hi hi2 => ?_⟩
    rw [up_ne (by decide), getD_app, if_pos (by omega)]
    exact h3 i (by omega) hi2
theorem b_putsL {M : Mm} {L : List Int} {l : Nat} (h : PM M L) (hn : l < 24) (hl : L.length ≤ 9000) (hk : ∀ M', FrW M M' → PM M' (L ++ pNum l) → kv M') : Bv (wX12_putsLog (l : Int) M) kv := by
  apply Bv.of; unfold wX12_putsLog
  refine ⟨(inRof ⟨by omega, by omega⟩), ?_⟩
  have e1 : Int.tmod (l : Int) 10 = ((l % 10 : Nat) : Int) := by rw [Int.tmod_eq_emod_of_nonneg (by omega)]; omega
  have e2 : Int.tdiv (l : Int) 10 = ((l / 10 : Nat) : Int) := by rw [Int.tdiv_eq_ediv_of_nonneg (by omega)]; omega
  rw [e1, e2]
  unfold pNum at hk
  by_cases q : l ≤ 9
  · rw [if_pos (by omega)]
    rw [if_pos q] at hk
    rw [show l % 10 = l by omega]
    exact b_puts h (by omega) (by omega) hk
  · rw [if_neg (by omega)]
    rw [if_neg q] at hk
    refine b_puts h (by omega) (by omega) (fun M1 f1 p1 => b_puts p1 (by omega) (by rw [List.length_append]; show L.length + 1 ≤ _; omega) (fun M2 f2 p2 => hk M2 (f1.trans f2) ?_))
    rw [List.append_assoc] at p2
    exact p2
theorem gpB_skip {x fi : Nat} (hn : ∀ i, i < fi → ¬ x.testBit i = true) : ∀ i : Nat, i ≤ fi → fi < 24 → gpB x fi (24 - i) i = gpB x fi (24 - fi) fi := by
  have key : ∀ k i : Nat, i + k = fi → fi < 24 → gpB x fi (24 - i) i = gpB x fi (24 - fi) fi := by
    intro k
    induction k with
    | zero => intro i h _; rw [show i = fi by omega]
    | succ k ih =>
      intro i h hf
      rw [← ih (i + 1) (by omega) hf, show 24 - i = (24 - (i + 1)) + 1 by omega]
      show (if x.testBit i = true then _ else _) = _
      rw [if_neg (hn i (by omega))]
  intro i hi hf
  exact key (fi - i) i (by omega) hf
theorem l_pg {Q : Mm → Prop} {x fi : Nat} {G : Int} (hG : inR G) (hx : x.testBit fi = true) (hn : ∀ i, i < fi → ¬ x.testBit i = true) : ∀ (n i : Nat) (M : Mm) (L : List Int), i + n = 24 → (∀ l : Nat, l < 24 → inR (M 113 (l : Int)) ∧ (M 113 (l : Int) = G ↔ x.testBit l = true)) → PM M L → L.length + 3 * n ≤ 8000 → (∀ M', FrW M M' → PM M' (L ++ gpB x fi n i) → Q M') → wX12_putsGroup_4 Q G (n + 1) (if i ≤ fi then 0 else 1) (i : Int) M := by
  intro n
  induction n with
  | zero =>
    intro i M L hi hm h hl hk
    unfold wX12_putsGroup_4
    refine ⟨(inRof ⟨by omega, by omega⟩), ?_⟩
    rw [if_neg (show ¬ (i : Int) < 24 by omega)]
    exact b_puts h (by omega) (by omega) hk
  | succ n ih =>
    intro i M L hi hm h hl hk
    unfold wX12_putsGroup_4
    refine ⟨(inRof ⟨by omega, by omega⟩), ?_⟩
    rw [if_pos (show (i : Int) < 24 by omega)]
    have hmi := hm i (by omega)
    have hp := pNum_len i
    refine ⟨⟨by omega, by omega⟩, hmi.1, hG, ?_⟩
    unfold gpB at hk
    by_cases q : x.testBit i = true
    · rw [if_pos (hmi.2.mpr q)]
      rw [if_pos q] at hk
      have hge : fi ≤ i := by
        by_cases z : fi ≤ i
        · exact z
        · exact absurd q (hn i (by omega))
      by_cases q2 : i ≤ fi
      · rw [if_pos q2, if_pos rfl]
        rw [if_pos q2] at hk
        refine ⟨inR0, b_putsL h (by omega) (by omega) (fun M1 f1 p1 => ?_)⟩
        have := ih (i + 1) M1 _ (by omega) (by rw [f1.1 113 (by decide) (by decide)]; exact hm) p1 (by rw [List.length_append]; omega) (fun M2 f2 p2 => hk M2 (f1.trans f2) (by rw [List.append_assoc] at p2; exact p2))
        rw [if_neg (by omega)] at this
        exact this
      · rw [if_neg q2, if_neg (show ¬ (1 : Int) = 0 by decide)]
        rw [if_neg q2] at hk
        refine ⟨inR1, b_puts h (by omega) (by omega) (fun M0 f0 p0 => b_putsL p0 (by omega) (by rw [List.length_append]; show L.length + 1 ≤ _; omega) (fun M1 f1 p1 => ?_))⟩
        have := ih (i + 1) M1 _ (by omega) (by rw [f1.1 113 (by decide) (by decide), f0.1 113 (by decide) (by decide)]; exact hm) p1 (by rw [List.length_append, List.length_append]; show L.length + 1 + _ + _ ≤ _; omega) (fun M2 f2 p2 => hk M2 ((f0.trans f1).trans f2) (by rw [List.append_assoc, List.append_assoc] at p2; exact p2))
        rw [if_neg (by omega)] at this
        exact this
    · rw [if_neg (fun z => q (hmi.2.mp z))]
      rw [if_neg q] at hk
      have := ih (i + 1) M L (by omega) hm h (by omega) hk
      by_cases q2 : i ≤ fi
      · have : i ≠ fi := fun e => by subst e; exact q hx
        rw [if_pos q2]
        rw [if_pos (by omega)] at *
        assumption
      · rw [if_neg q2]
        rw [if_neg (by omega)] at this
        exact this
theorem l_so {M : Mm} {Q : Int → Mm → Prop} {x : Nat} {G : Int} (hG : inR G) (hm : ∀ l : Nat, l < 24 → inR (M 113 (l : Int)) ∧ (M 113 (l : Int) = G ↔ x.testBit l = true)) (hk : Q (popc x : Nat) M) : ∀ (n j : Nat), j + n = 24 → wX12_sizeOf_4 Q G (n + 1) (pcR x j : Nat) (j : Int) M := by
  intro n
  induction n with
  | zero =>
    intro j hj
    unfold wX12_sizeOf_4
    refine ⟨(inRof ⟨by omega, by omega⟩), ?_⟩
    rw [if_neg (by omega)]
    rw [show j = 24 by omega]
    exact hk
  | succ n ih =>
    intro j hj
    unfold wX12_sizeOf_4
    refine ⟨(inRof ⟨by omega, by omega⟩), ?_⟩
    rw [if_pos (by omega)]
    have hmj := hm j (by omega)
    have ih := ih (j + 1) (by omega)
    unfold pcR at ih
    refine ⟨⟨by omega, by omega⟩, hmj.1, hG, ?_⟩
    by_cases q : x.testBit j = true
    · rw [if_pos (hmj.2.mpr q)]
      rw [if_pos q] at ih
      exact ih
    · rw [if_neg (fun z => q (hmj.2.mp z))]
      rw [if_neg q] at ih
      exact ih
/-- the row of groups is right -/
def GOK (g : Nat → Nat) (A : Int → Int) (Ge : Int) : Nat → Nat → Nat → Int → Prop
  | 0, _, _, G => Ge = G
  | n + 1, j, fr, G => if fr.testBit j = true then (∀ l : Nat, l < 24 → inR (A (l : Int)) ∧ (A (l : Int) = G ↔ (gp g fr j).testBit l = true)) ∧ GOK g A Ge n (j + 1) (sd fr (gp g fr j)) (G + 1) else GOK g A Ge n (j + 1) fr G
theorem GOK_le {A : Int → Int} {Ge : Int} : ∀ (n j fr : Nat) (G : Int), GOK g A Ge n j fr G → G ≤ Ge ∧ Ge ≤ G + (n : Int)
  | 0, _, _, G, h => by have h : Ge = G := h; omega
  | n + 1, j, fr, G, h => by
    unfold GOK at h
    by_cases q : fr.testBit j = true
    · rw [if_pos q] at h
      have := GOK_le n (j + 1) _ _ h.2
      omega
    · rw [if_neg q] at h
      have := GOK_le n (j + 1) _ _ h
      omega
theorem l_emit {Q : Mm → Prop} {rc : Int → Int → Mm → (Mm → Prop) → Prop} {A : Int → Int} {Ge : Int} (hE : evn g U) : ∀ (n j fr : Nat) (G : Nat) (M : Mm) (L : List Int), j + n = 24 → fr < 16777216 → subs fr U → (∀ i, i < j → ¬ fr.testBit i = true) → GOK g A Ge n j fr (G : Int) → (G : Int) ≤ 24 - (n : Int) → M 113 = A → M 102 21 = Ge → PM M L → L.length + 80 * n ≤ 7000 → (∀ M', FrW M M' → PM M' (L ++ pGs g n j fr) → Q M') → wX12_proves_32 Q rc ((Ge - (G : Int)).toNat + 1) (G : Int) M := by
  intro n
  induction n with
  | zero =>
    intro j fr G M L hj hf hs hlow hG hG2 hA hGe h hl hk
    have hG : Ge = (G : Int) := hG
    rw [hG, show ((G : Int) - (G : Int)).toNat = 0 by omega]
    unfold wX12_proves_32
    rw [hGe, hG]
    refine ⟨(inRof ⟨by omega, by omega⟩), (inRof ⟨by omega, by omega⟩), ?_⟩
    rw [if_neg (by omega)]
    exact b_puts h (by omega) (by omega) hk
  | succ n ih =>
    intro j fr G M L hj hf hs hlow hG hG2 hA hGe h hl hk
    have hle := GOK_le _ _ _ _ hG
    unfold GOK at hG
    unfold pGs at hk
    by_cases q : fr.testBit j = true
    · rw [if_pos q] at hG hk
      obtain ⟨g1, g2, g3, g4⟩ := gp_spec hE hs (show j < 24 by omega) q
      have hle2 := GOK_le _ _ _ _ hG.2
      have hlow' : ∀ i, i < j + 1 → ¬ (sd fr (gp g fr j)).testBit i = true := fun i hi z => by
        have := (sd_bit hf).mp z
        by_cases e : i = j
        · subst e; exact this.2 g2
        · exact hlow i (by omega) this.1
      have hs' : subs (sd fr (gp g fr j)) U := fun l hl' => hs l ((sd_bit hf).mp hl').1
      have pl := popc_le (n := gp g fr j)
      have efu : (Ge - (G : Int)).toNat + 1 = ((Ge - ((G + 1 : Nat) : Int)).toNat + 1) + 1 := by omega
      have hm : ∀ l : Nat, l < 24 → inR (M 113 (l : Int)) ∧ (M 113 (l : Int) = (G : Int) ↔ (gp g fr j).testBit l = true) := by rw [hA]; exact hG.1
      by_cases q2 : popc (gp g fr j) ≤ 1
      · rw [if_pos q2] at hk
        have hm2 := ih (j + 1) (sd fr (gp g fr j)) (G + 1) M L (by omega) sd_lt hs' hlow' (by rw [show ((G + 1 : Nat) : Int) = (G : Int) + 1 by omega]; exact hG.2) (by omega) hA hGe h (by omega) hk
        rw [efu]
        unfold wX12_proves_32
        rw [hGe]
        refine ⟨(inRof ⟨by omega, by omega⟩), (inRof ⟨by omega, by omega⟩), ?_⟩
        rw [if_pos (by omega)]
        apply Bd.of; unfold wX12_sizeOf
        refine ⟨25, l_so (x := gp g fr j) (inRof ⟨by omega, by omega⟩) hm ⟨(inRof ⟨by omega, by omega⟩), ?_⟩ 24 0 rfl⟩
        rw [if_pos (by omega)]
        exact hm2
      · rw [if_neg q2] at hk
        have hgl := gpB_len (gp g fr j) j (24 - j) j
        have hgn : ∀ i, i < j → ¬ (gp g fr j).testBit i = true := fun i hi z => hlow i hi (g3 i z)
        have esk := gpB_skip (x := gp g fr j) (fi := j) hgn 0 (by omega) (by omega)
        rw [efu]
        unfold wX12_proves_32
        rw [hGe]
        refine ⟨(inRof ⟨by omega, by omega⟩), (inRof ⟨by omega, by omega⟩), ?_⟩
        rw [if_pos (by omega)]
        apply Bd.of; unfold wX12_sizeOf
        refine ⟨25, l_so (x := gp g fr j) (inRof ⟨by omega, by omega⟩) hm ⟨(inRof ⟨by omega, by omega⟩), ?_⟩ 24 0 rfl⟩
        rw [if_neg (by omega)]
        apply Bv.of; unfold wX12_putsGroup
        refine ⟨25, ?_⟩
        have := l_pg (Q := fun M13 => wX12_proves_32 Q rc ((Ge - ((G + 1 : Nat) : Int)).toNat + 1) ((G : Int) + 1) M13) (x := gp g fr j) (fi := j) (G := (G : Int)) (inRof ⟨by omega, by omega⟩) g2 hgn 24 0 M L rfl hm h (by omega) (fun M1 f1 p1 => ?_)
        · rw [if_pos (by omega)] at this
          exact this
        · rw [show 24 = 24 - 0 by omega, esk] at p1
          exact ih (j + 1) (sd fr (gp g fr j)) (G + 1) M1 _ (by omega) sd_lt hs' hlow' (by rw [show ((G + 1 : Nat) : Int) = (G : Int) + 1 by omega]; exact hG.2) (by omega) (by rw [f1.1 113 (by decide) (by decide)]; exact hA) (by rw [f1.2 21 (by decide)]; exact hGe) p1 (by rw [List.length_append]; omega) (fun M2 f2 p2 => hk M2 (f1.trans f2) (by rw [List.append_assoc] at p2; exact p2))
    · rw [if_neg q] at hG hk
      exact ih (j + 1) fr G M L (by omega) hf hs (fun i hi z => by
        by_cases e : i = j
        · subst e; exact q z
        · exact hlow i (by omega) z) hG (by omega) hA hGe h (by omega) hk
end Puts
