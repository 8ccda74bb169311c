/-! ===== prove: the op ===== -/
section Prove2
variable {M : Mm} {k : Mm → Prop} {a b : Int}
theorem op_prove (ha : inR a) (hb : inR b) (hI : Inv M) (hk : ∀ M, Inv M → k M) : Bd (wX11_prove a b M) (fun r1 M1 => Bd (wX12_prove a b M1) (fun r2 M2 => inR r1 ∧ inR r2 ∧ r1 = r2 ∧ k M2)) := by
  have hB := hI.1
  have n0 := hB.1.1
  have fin : ¬ ((0 ≤ a ∧ a < M 103 721) ∧ (0 ≤ b ∧ b ≤ 119)) → Bd (wX12_prove a b M) (fun r2 M2 => inR (-1) ∧ inR r2 ∧ -1 = r2 ∧ k M2) := fun q => m_prove rfl hB ha hb (fun q1 q2 => absurd ⟨q1, q2⟩ q) (fun q1 q2 => absurd ⟨q1, q2⟩ q) (fun _ => ⟨(inRl (by decide)), (inRl (by decide)), rfl, hk _ hI⟩)
  apply Bd.of; unfold wX11_prove
  refine i_isShip ha (by omega) (fun c1 => ?_) (fun q => fin (fun z => by omega))
  refine i_isDay hb (fun c2 => ?_) (fun q => fin (fun z => by omega))
  refine b_gload hB (by omega) hb (fun M1 k1 k2 k3 k4 => ?_)
  have hS := cnt_lgs (s := a) hB.1 b
  have gx := k4.gx k2 hS
  refine b_choose evn_foe gx k4.2.1 (fun M2 T f2 e2 hT ht => ?_)
  have hf : ∀ c : Nat, c < 72 ∨ 85 < c → M2 c = M c := fun c hc => by rw [f2 c (by omega), k1 c (by omega)]
  have hw : ∀ i, (snd (M 103) a (cnt (M 103) a b)).testBit i = true → 1 ≤ wtB (M 103) i ∧ wtB (M 103) i ≤ 100 := fun i hi => ⟨(wt_facts hB hS hi).2.1, (wt_facts hB hS hi).2.2.1⟩
  have wrg := W_range ht.1.1 hw
  have gx2 := gx.fr (M' := M2) (f2 84 (by decide)) (f2 20 (by decide))
  apply Bd.of; unfold wX1_bestWorth
  rw [e2]
  refine b_aw gx2 ht.1.1 hT ?_
  have hal : alike (foe (M 103) a (cnt (M 103) a b)) (agn (M 103) a (cnt (M 103) a b)) (snd (M 103) a (cnt (M 103) a b)) := fun x y hx hy => foe_iff hx hy
  have ewr : wr (foe (M 103) a (cnt (M 103) a b)) (wtB (M 103)) (SF (wtB (M 103)) T) 30 (snd (M 103) a (cnt (M 103) a b)) 0 [] = prL (M 103) a (cnt (M 103) a b) T := wr_al hal 30 _ 0 [] snd_lt (fun _ z => z)
  have wl := wr_len (g := agn (M 103) a (cnt (M 103) a b)) (wt := wtB (M 103)) (goal := SF (wtB (M 103)) T) 30 (snd (M 103) a (cnt (M 103) a b)) 0 []
  have one : ∀ T', Top (agn (M 103) a (cnt (M 103) a b)) (wtB (M 103)) (snd (M 103) a (cnt (M 103) a b)) T' → T' = T := fun T' ht' => top_one snd_lt ht' (top_iff.mp ht) (fun i hi => by have := hw i hi; omega)
  have hbt : byt (prL (M 103) a (cnt (M 103) a b) T) := byt_wr _ _ _ _ byt_nil
  have hJ := hI
  obtain ⟨-, -, -, -, i5, i6, i7, i8, i9, i10, i11⟩ := hJ
  refine b_writeAll (kk := fun r1 M1 => Bd (wX12_prove a b M1) (fun r2 M2 => inR r1 ∧ inR r2 ∧ r1 = r2 ∧ k M2)) evn_foe gx2 (by rw [f2 83 (by decide)]; exact k4.2.1) (inRof ⟨by omega, by omega⟩) (fun q M3 f3 e3 g3 => ?_) (fun q M3 f3 e3 => ?_)
  · rw [ewr] at q e3 g3 ⊢
    have hf3 : ∀ c : Nat, c < 72 ∨ 87 < c → M3 c = M c := fun c hc => by rw [f3 c (by omega) (by omega), hf c (by omega)]
    refine m_prove (B := M 103) (hf3 103 (by omega)) hB ha hb (fun _ _ M5 T' hT' ht' q' f5 s5 e5 g5 => ?_) (fun _ _ M5 T' hT' ht' q' => ?_) (fun z => absurd ⟨by omega, c2⟩ z)
    · have et := one T' ht'
      subst et
      refine ⟨(inRof ⟨by omega, by omega⟩), (inRof ⟨by omega, by omega⟩), rfl, hk _ ?_⟩
      have hc : ∀ c : Nat, c < 72 ∨ 87 < c → c ≠ 102 → c ≠ 106 → c ≠ 107 → c ≠ 108 → c ≠ 109 → c ≠ 110 → c ≠ 111 → c ≠ 112 → c ≠ 113 → M5 c = M c := fun c q q1 q2 q3 q4 q5 q6 q7 q8 q9 => by rw [f5 c q1 q2 q3 q4 q5 q6 q7 q8 q9, hf3 c q]
      have hcd : ∀ c : Nat, c ∈ [0, 71, 88, 89, 90, 98, 99, 100, 101, 103, 104, 105, 114, 122, 124, 125] → M5 c = M c := fun c hc' => by
        have : ∀ c ∈ [0, 71, 88, 89, 90, 98, 99, 100, 101, 103, 104, 105, 114, 122, 124, 125], (c < 72 ∨ 87 < c) ∧ c ≠ 102 ∧ c ≠ 106 ∧ c ≠ 107 ∧ c ≠ 108 ∧ c ≠ 109 ∧ c ≠ 110 ∧ c ≠ 111 ∧ c ≠ 112 ∧ c ≠ 113 := by decide
        obtain ⟨x0, x1, x2, x3, x4, x5, x6, x7, x8, x9⟩ := this c hc'
        exact hc c x0 x1 x2 x3 x4 x5 x6 x7 x8 x9
      have h102 : ∀ i, i ∈ ([0, 14, 25, 29, 38, 41, 47] : List Int) → M5 102 i = M 102 i := fun i hi => by
        have : ∀ i ∈ ([0, 14, 25, 29, 38, 41, 47] : List Int), i ≠ 8 ∧ i ≠ 9 ∧ i ≠ 11 ∧ i ≠ 12 ∧ i ≠ 13 ∧ i ≠ 17 ∧ i ≠ 18 ∧ i ≠ 19 ∧ i ≠ 21 := by decide
        obtain ⟨x1, x2, x3, x4, x5, x6, x7, x8, x9⟩ := this i hi
        rw [s5 i x1 x2 x3 x4 x5 x6 x7 x8 x9, hf3 102 (by omega)]
      refine hI.rest (fun c g0 g1 => hc c (by omega) (by omega) (by omega) (by omega) (by omega) (by omega) (by omega) (by omega) (by omega) (by omega)) (hcd 103 (by decide)) (hcd 104 (by decide)) (hcd 105 (by decide)) ?_ ?_ ?_ ?_ ?_ ?_ ?_
      · rw [hcd 0 (by decide), h102 0 (by decide)]; exact i5
      · rw [hcd 0 (by decide), h102 14 (by decide)]; exact i6
      · rw [e5, f5 86 (by decide) (by decide) (by decide) (by decide) (by decide) (by decide) (by decide) (by decide) (by decide), f5 87 (by decide) (by decide) (by decide) (by decide) (by decide) (by decide) (by decide) (by decide) (by decide), e3]
        refine ⟨by omega, Or.inr rfl, fun i x0 x1 => ?_⟩
        obtain ⟨j, ej⟩ : ∃ j : Nat, i = (j : Int) := ⟨i.toNat, by omega⟩
        subst ej
        have := byt_get hbt j
        rw [g3 j (by omega), g5 j (by omega)]
        exact ⟨rfl, this.1, this.2⟩
      · rw [hcd 88 (by decide), hcd 89 (by decide), h102 25 (by decide), h102 29 (by decide), hcd 114 (by decide)]; exact i8
      · rw [hcd 90 (by decide), hcd 98 (by decide), h102 38 (by decide), hcd 122 (by decide)]; exact i9
      · rw [hcd 90 (by decide), hcd 99 (by decide), h102 41 (by decide), hcd 124 (by decide)]; exact i10
      · rw [hcd 100 (by decide), hcd 101 (by decide), h102 47 (by decide), hcd 125 (by decide)]; exact i11
    · have et := one T' ht'
      subst et
      exact absurd q q'
  · rw [ewr] at q
    have hf3 : ∀ c : Nat, c < 72 ∨ 86 < c → M3 c = M c := fun c hc => by rw [f3 c (by omega), hf c (by omega)]
    have hI3 : Inv M3 := by
      refine hI.fr2 (fun c i x1 x2 x3 x4 x5 => ?_)
      by_cases z : c < 72 ∨ 86 < c
      · rw [hf3 c z]
      · by_cases z2 : c = 86
        · subst z2
          rw [x3 rfl, e3, hf 86 (by omega)]
        · have : ∀ c : Nat, c < 86 → 72 ≤ c → scr.contains c = true := by decide
          rw [this c (by omega) (by omega)] at x1
          exact absurd x1 (by decide)
    refine m_prove (B := M 103) (hf3 103 (by omega)) hB ha hb (fun _ _ M5 T' hT' ht' q' => ?_) (fun _ _ M5 T' hT' ht' q' f5 s5 => ?_) (fun z => absurd ⟨by omega, c2⟩ z)
    · have et := one T' ht'
      subst et
      exact absurd q' q
    · refine ⟨(inRl (by decide)), (inRl (by decide)), rfl, hk _ (hI3.fr2 (fun c i x1 x2 x3 x4 x5 => ?_))⟩
      by_cases z : c = 102
      · subst z
        have := x2 rfl
        rw [s5 i (by omega) (by omega) (by omega) (by omega) (by omega) (by omega) (by omega) (by omega)]
      · rw [f5 c z (by rintro rfl; revert x1; decide) (by rintro rfl; revert x1; decide) (by rintro rfl; revert x1; decide) (by rintro rfl; revert x1; decide) (by rintro rfl; revert x1; decide) (by rintro rfl; revert x1; decide) (by rintro rfl; revert x1; decide)]
end Prove2
