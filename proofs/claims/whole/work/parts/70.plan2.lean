/-! ===== plan, judge: the ops ===== -/
def plR (cost : Nat → Int) : Nat → Nat
  | 0 => 0
  | n + 1 => if cost (n + 1) < cost (plR cost n) ∨ (cost (n + 1) = cost (plR cost n) ∧ popc (n + 1) < popc (plR cost n)) then n + 1 else plR cost n
theorem plR_le (cost : Nat → Int) : ∀ n, plR cost n ≤ n
  | 0 => Nat.le_refl _
  | n + 1 => by
    have ih := plR_le cost n
    unfold plR
    split <;> omega
theorem cmp_lt {x y : Int} : cmpI x y < 0 ↔ x < y := by unfold cmpI; split <;> (try split) <;> omega
theorem cmp_eq {x y : Int} : cmpI x y = 0 ↔ x = y := by unfold cmpI; split <;> (try split) <;> omega
theorem cmp_le {x y : Int} : cmpI x y ≤ 0 ↔ x ≤ y := by unfold cmpI; split <;> (try split) <;> omega
def coV (B : Int → Int) (s : Int) (S : Nat) (mc : Int → Int) (n F N t : Nat) : Int := wcR B s (fun d => clR mc t d n) F (sHi B s S F) N
section Plan
variable {M : Mm} {k : Mm → Prop} {kk : Int → Mm → Prop} {a b c d e s : Int} {bb : Mm} {B : Int → Int} {t F N n S : Nat} {mc : Int → Int}
theorem b_worst (h : BkR M B) (hs : 0 ≤ s ∧ s < B 721) (hn : NtA M B s) (hF : F < 120) (hN : F + N ≤ 120) (hz : M 82 (F : Int) = sHi B s S F ∧ 0 ≤ sHi B s S F ∧ sHi B s S F ≤ 1000) (hC : Cal M n mc) (ht : t < 128) (hk : kk (coV B s S mc n F N t) M) : Bd (wX7_worstCost (t : Int) (F : Int) ((F : Int) + (N : Int) - 1) M) kk := by
  apply Bd.of; unfold wX7_worstCost
  have := l_xwc (M := M) (B := B) (s := s) (t := t) (F := F) (N := N) (z0 := sHi B s S F) (cl := fun d => clR mc t d n) h hs hn hN hz.2 (fun d hd => hC.2.2 t d ht hd) hk (N + 1) 0 (by omega) (by omega)
  rw [show (F : Int) + ((0 : Nat) : Int) = (F : Int) by omega] at this
  rw [hz.1]
  exact ⟨⟨by omega, by omega⟩, N + 1, this⟩
theorem b_costOf (h : BkR bb (M 103)) (hs : 0 ≤ s ∧ s < M 103 721) (hF : F < 120) (hN : F + N ≤ 120) (hz : 0 ≤ sHi (M 103) s S F ∧ sHi (M 103) s S F ≤ 1000) (hn : M 102 47 = (n : Int)) (h7 : n ≤ 7) (hr : ∀ c : Nat, c < n → inR (M 125 (c : Int))) (ht : t < 2147483648) (hk : kk (coV (M 103) s S (M 125) n F N t) M) : Bd (wX12_costOf s (t : Int) (F : Int) ((F : Int) + (N : Int) - 1) (sHi (M 103) s S F) M) kk := by
  apply Bd.of; unfold wX12_costOf
  have := l_mwc (M := M) (bb := bb) (s := s) (t := t) (n := n) (F := F) (N := N) (z0 := sHi (M 103) s S F) h hs hN hz ht hn h7 hr hk (N + 1) 0 (by omega) (by omega)
  rw [show (F : Int) + ((0 : Nat) : Int) = (F : Int) by omega] at this
  exact ⟨N + 1, this⟩
theorem pow7 (h : n ≤ 7) : 2 ^ n ≤ 128 := by
  have : 2 ^ n ≤ 2 ^ 7 := Nat.pow_le_pow_right (by decide) h
  omega
theorem coV_range (h : BkR bb B) (hs : 0 ≤ s ∧ s < B 721) (hz : 0 ≤ sHi B s S F ∧ sHi B s S F ≤ 1000) (hN : N ≤ 120) : 0 ≤ coV B s S mc n F N t ∧ coV B s S mc n F N t ≤ 1100000000 := by
  have := wcR_range (cl := fun d => clR mc t d n) (F := F) h hs hz N
  unfold coV
  omega
theorem l_xpl {Q : Int → Mm → Prop} {X : Nat} (h : BkR M B) (hs : 0 ≤ s ∧ s < B 721) (hn : NtA M B s) (hF : F < 120) (hN : F + N ≤ 120) (hz : M 82 (F : Int) = sHi B s S F ∧ 0 ≤ sHi B s S F ∧ sHi B s S F ≤ 1000) (hC : Cal M n mc) (hX : X + 1 = 2 ^ n) (hk : Q (plR (coV B s S mc n F N) X : Nat) M) : ∀ (f j : Nat), j ≤ X → X - j < f → wX7_cheapest_14 Q (F : Int) ((F : Int) + (N : Int) - 1) f (plR (coV B s S mc n F N) j : Nat) (coV B s S mc n F N (plR (coV B s S mc n F N) j)) ((j : Int) + 1) M := by
  have p7 := pow7 hC.2.1
  have cr : ∀ t, 0 ≤ coV B s S mc n F N t ∧ coV B s S mc n F N t ≤ 1100000000 := fun t => coV_range h hs hz.2 (by omega)
  intro f
  induction f with
  | zero => intro j h1 h2; omega
  | succ f ih =>
    intro j h1 h2
    have pl := plR_le (coV B s S mc n F N) j
    unfold wX7_cheapest_14
    rw [hC.1, shl1 (by have := hC.2.1; omega)]
    refine ⟨(inRof ⟨by omega, by omega⟩), ?_⟩
    by_cases q : j < X
    · rw [if_pos (by omega)]
      have ih := ih (j + 1) (by omega) (by omega)
      have r1 := cr (j + 1)
      have r2 := cr (plR (coV B s S mc n F N) j)
      have o1 := popc_le (n := j + 1)
      have o2 := popc_le (n := plR (coV B s S mc n F N) j)
      rw [show (j : Int) + 1 = ((j + 1 : Nat) : Int) by omega]
      refine b_worst h hs hn hF hN hz hC (by omega) ?_
      refine b_bits (by omega) (b_bits (by omega) ⟨(inRof ⟨by omega, by omega⟩), (inRof ⟨by omega, by omega⟩), ?_⟩)
      have st : plR (coV B s S mc n F N) (j + 1) = if coV B s S mc n F N (j + 1) < coV B s S mc n F N (plR (coV B s S mc n F N) j) ∨ (coV B s S mc n F N (j + 1) = coV B s S mc n F N (plR (coV B s S mc n F N) j) ∧ popc (j + 1) < popc (plR (coV B s S mc n F N) j)) then j + 1 else plR (coV B s S mc n F N) j := rfl
      have i1 : inR64 (coV B s S mc n F N (j + 1)) := ⟨by omega, by omega⟩
      have i2 : inR64 (coV B s S mc n F N (plR (coV B s S mc n F N) j)) := ⟨by omega, by omega⟩
      rw [st] at ih
      have gen : ∀ s0 : Int, ((s0 = 1 ∧ popc (j + 1) < popc (plR (coV B s S mc n F N) j)) ∨ (s0 = 0 ∧ ¬ popc (j + 1) < popc (plR (coV B s S mc n F N) j))) → wX7_cheapest_52 Q (wX7_cheapest_14 Q (F : Int) ((F : Int) + (N : Int) - 1) f) (F : Int) ((F : Int) + (N : Int) - 1) (plR (coV B s S mc n F N) j : Nat) (coV B s S mc n F N (plR (coV B s S mc n F N) j)) ((j + 1 : Nat) : Int) (coV B s S mc n F N (j + 1)) s0 M := by
        intro s0 hs0
        unfold wX7_cheapest_52
        refine ⟨i1, i2, ?_⟩
        by_cases c1 : coV B s S mc n F N (j + 1) < coV B s S mc n F N (plR (coV B s S mc n F N) j)
        · rw [if_pos (cmp_lt.mpr c1)]
          rw [if_pos (Or.inl c1)] at ih
          exact ih
        · rw [if_neg (fun x => c1 (cmp_lt.mp x))]
          by_cases c2 : coV B s S mc n F N (j + 1) = coV B s S mc n F N (plR (coV B s S mc n F N) j)
          · rw [if_pos (cmp_eq.mpr c2)]
            refine ⟨(inRof ⟨by omega, by omega⟩), ?_⟩
            rcases hs0 with ⟨e0, e1⟩ | ⟨e0, e1⟩
            · rw [if_neg (by omega)]
              rw [if_pos (Or.inr ⟨c2, e1⟩)] at ih
              exact ih
            · rw [if_pos e0]
              rw [if_neg (by omega)] at ih
              exact ih
          · rw [if_neg (fun x => c2 (cmp_eq.mp x))]
            rw [if_neg (by omega)] at ih
            exact ih
      by_cases c3 : popc (j + 1) < popc (plR (coV B s S mc n F N) j)
      · rw [if_pos (by omega)]
        exact gen 1 (Or.inl ⟨rfl, c3⟩)
      · rw [if_neg (by omega)]
        exact gen 0 (Or.inr ⟨rfl, c3⟩)
    · rw [if_neg (by omega)]
      rw [show j = X by omega]
      exact hk
theorem l_mpl {Q : Int → Mm → Prop} {X : Nat} (h : BkR bb (M 103)) (hs : 0 ≤ s ∧ s < M 103 721) (hF : F < 120) (hN : F + N ≤ 120) (hz : 0 ≤ sHi (M 103) s S F ∧ sHi (M 103) s S F ≤ 1000) (hn : M 102 47 = (n : Int)) (h7 : n ≤ 7) (hr : ∀ c : Nat, c < n → inR (M 125 (c : Int))) (hX : X + 1 = 2 ^ n) (hk : Q (plR (coV (M 103) s S (M 125) n F N) X : Nat) M) : ∀ (f j : Nat), j ≤ X → X - j < f → wX12_plan_64 Q s (F : Int) ((F : Int) + (N : Int) - 1) (sHi (M 103) s S F) f (plR (coV (M 103) s S (M 125) n F N) j : Nat) (coV (M 103) s S (M 125) n F N (plR (coV (M 103) s S (M 125) n F N) j)) ((j : Int) + 1) M := by
  have p7 := pow7 h7
  have cr : ∀ t, 0 ≤ coV (M 103) s S (M 125) n F N t ∧ coV (M 103) s S (M 125) n F N t ≤ 1100000000 := fun t => coV_range h hs hz (by omega)
  intro f
  induction f with
  | zero => intro j h1 h2; omega
  | succ f ih =>
    intro j h1 h2
    have pl := plR_le (coV (M 103) s S (M 125) n F N) j
    unfold wX12_plan_64
    rw [hn, shl1 (by omega)]
    refine ⟨(inRof ⟨by omega, by omega⟩), ?_⟩
    by_cases q : j < X
    · rw [if_pos (by omega)]
      have ih := ih (j + 1) (by omega) (by omega)
      have r1 := cr (j + 1)
      have r2 := cr (plR (coV (M 103) s S (M 125) n F N) j)
      have o1 := popc_le (n := j + 1)
      have o2 := popc_le (n := plR (coV (M 103) s S (M 125) n F N) j)
      rw [show (j : Int) + 1 = ((j + 1 : Nat) : Int) by omega]
      refine b_costOf h hs hF hN hz hn h7 hr (by omega) ?_
      have st : plR (coV (M 103) s S (M 125) n F N) (j + 1) = if coV (M 103) s S (M 125) n F N (j + 1) < coV (M 103) s S (M 125) n F N (plR (coV (M 103) s S (M 125) n F N) j) ∨ (coV (M 103) s S (M 125) n F N (j + 1) = coV (M 103) s S (M 125) n F N (plR (coV (M 103) s S (M 125) n F N) j) ∧ popc (j + 1) < popc (plR (coV (M 103) s S (M 125) n F N) j)) then j + 1 else plR (coV (M 103) s S (M 125) n F N) j := rfl
      have i1 : inR64 (coV (M 103) s S (M 125) n F N (j + 1)) := ⟨by omega, by omega⟩
      have i2 : inR64 (coV (M 103) s S (M 125) n F N (plR (coV (M 103) s S (M 125) n F N) j)) := ⟨by omega, by omega⟩
      rw [st] at ih
      refine ⟨i1, i2, ?_⟩
      by_cases c1 : coV (M 103) s S (M 125) n F N (j + 1) ≤ coV (M 103) s S (M 125) n F N (plR (coV (M 103) s S (M 125) n F N) j)
      · rw [if_pos (cmp_le.mpr c1)]
        by_cases c2 : coV (M 103) s S (M 125) n F N (j + 1) = coV (M 103) s S (M 125) n F N (plR (coV (M 103) s S (M 125) n F N) j)
        · rw [if_pos (cmp_eq.mpr c2)]
          refine b_ones (by omega) (b_ones (by omega) ⟨(inRof ⟨by omega, by omega⟩), (inRof ⟨by omega, by omega⟩), ?_⟩)
          by_cases c3 : popc (j + 1) < popc (plR (coV (M 103) s S (M 125) n F N) j)
          · rw [if_pos (by omega)]
            rw [if_pos (Or.inr ⟨c2, c3⟩)] at ih
            exact ih
          · rw [if_neg (by omega)]
            rw [if_neg (by omega)] at ih
            exact ih
        · rw [if_neg (fun x => c2 (cmp_eq.mp x))]
          rw [if_pos (Or.inl (by omega))] at ih
          exact ih
      · rw [if_neg (fun x => c1 (cmp_le.mp x))]
        rw [if_neg (by omega)] at ih
        exact ih
    · rw [if_neg (by omega)]
      rw [show j = X by omega]
      exact hk
/-- model frames keep the calls -/
theorem FrM.cal {M M' : Mm} (hf : FrM M M') : M' 102 47 = M 102 47 ∧ M' 125 = M 125 := ⟨hf.2 47 (by decide) (by decide), hf.1 125 (by decide) (by decide) (by decide) (by decide) (by decide)⟩
def plV (B : Int → Int) (s : Int) (S : Nat) (mc : Int → Int) (n F N : Nat) : Nat := plR (coV B s S mc n F N) (2 ^ n - 1)
theorem m_plan (hB : M 103 = B) (h : BkR bb B) (hn : M 102 47 = (n : Int)) (h7 : n ≤ 7) (hmc : M 125 = mc) (hr : ∀ c : Nat, c < n → inR (mc (c : Int))) (ha : inR a) (hb : inR b) (hc : inR c) (hd : inR d) (h1 : (0 ≤ a ∧ a < B 721) → (0 ≤ b ∧ b ≤ c ∧ c ≤ 119) → (0 ≤ d ∧ d ≤ 119) → sOk B a (cnt B a d) → ∀ M', FrM M M' → kk (plV B a (cnt B a d) mc n b.toNat (c - b + 1).toNat : Nat) M') (h0 : ¬ ((0 ≤ a ∧ a < B 721) ∧ (0 ≤ b ∧ b ≤ c ∧ c ≤ 119) ∧ (0 ≤ d ∧ d ≤ 119) ∧ sOk B a (cnt B a d)) → ∀ M', FrM M M' → kk (-1) M') : Bd (wX12_plan a b c d M) kk := by
  have n0 := h.1.1
  subst hB hmc
  apply Bd.of; unfold wX12_plan
  refine i_asked ha hb hd (by omega) (fun c1 c2 c3 => ?_) (fun q => h0 (fun z => q ⟨z.1, by omega, z.2.2.1⟩) _ FrM.refl)
  refine i_in hc hb (inRl (by decide)) (fun c4 => ?_) (fun q => h0 (fun z => q (by omega)) _ FrM.refl)
  refine b_cnt h ha hd ?_
  have hS := cnt_lgs (s := a) h.1 d
  refine i_spans rfl h ha hS (cnt_lt h.1) (fun q M' hf hh => ?_) (fun q M' hf => h0 (fun z => q z.2.2.2) M' hf)
  have h1 := h1 c1 (by omega) c3 q M' hf
  obtain ⟨F, eb⟩ : ∃ F : Nat, b = (F : Int) := ⟨b.toNat, by omega⟩
  obtain ⟨N, ec⟩ : ∃ N : Nat, c = (F : Int) + (N : Int) - 1 := ⟨(c - b + 1).toNat, by omega⟩
  subst eb ec
  rw [Int.toNat_natCast, show ((F : Int) + (N : Int) - 1 - (F : Int) + 1).toNat = N by omega] at h1
  have hz := sOk_range h hS q F (by omega)
  have hfc := hf.cal
  have er := hf.row
  rw [(hh F (by omega)).2, ← er]
  have hp : 0 < 2 ^ n := Nat.two_pow_pos n
  refine ⟨⟨by omega, by omega⟩, b_costOf (bb := bb) (t := 0) (by rw [er]; exact h) (by rw [er]; exact c1) (by omega) (by omega) (by rw [er]; exact ⟨by omega, hz.2.2⟩) (by rw [hfc.1]; exact hn) h7 (by rw [hfc.2]; exact hr) (by decide) ⟨2 ^ n, ?_⟩⟩
  have := l_mpl (M := M') (bb := bb) (s := a) (S := cnt (M 103) a d) (F := F) (N := N) (n := n) (X := 2 ^ n - 1) (Q := kk) (by rw [er]; exact h) (by rw [er]; exact c1) (by omega) (by omega) (by rw [er]; exact ⟨by omega, hz.2.2⟩) (by rw [hfc.1]; exact hn) h7 (by rw [hfc.2]; exact hr) (by omega) (by rw [er, hfc.2]; exact h1) (2 ^ n) 0 (by omega) (by omega)
  rw [er] at this ⊢
  exact this
theorem op_plan (ha : inR a) (hb : inR b) (hc : inR c) (hd : inR d) (hI : Inv M) (hk : ∀ M, Inv M → k M) : Bd (wX11_plan a b c d M) (fun r1 M1 => Bd (wX12_plan a b c d M1) (fun r2 M2 => inR r1 ∧ inR r2 ∧ r1 = r2 ∧ k M2)) := by
  have hB := hI.1
  have n0 := hB.1.1
  obtain ⟨n, hC, hn, h7, hr⟩ := hI.cal
  have fin : ¬ ((0 ≤ a ∧ a < M 103 721) ∧ (0 ≤ b ∧ b ≤ c ∧ c ≤ 119) ∧ (0 ≤ d ∧ d ≤ 119) ∧ sOk (M 103) a (cnt (M 103) a d)) → ∀ M', (∀ c : Nat, c < 72 ∨ 82 < c → M' c = M c) → Bd (wX12_plan a b c d M') (fun r2 M2 => inR (-1) ∧ inR r2 ∧ -1 = r2 ∧ k M2) := fun q M' hf => m_plan (n := n) (mc := M 125) (hf 103 (by omega)) hB (by rw [hf 102 (by omega)]; exact hn) h7 (hf 125 (by omega)) hr ha hb hc hd (fun q1 q2 q3 q4 => absurd ⟨q1, q2, q3, q4⟩ q) (fun _ M2 hf2 => ⟨(inRl (by decide)), (inRl (by decide)), rfl, hk _ ((hI.frX (fun c hc => hf c (by omega))).frM hf2)⟩)
  apply Bd.of; unfold wX11_plan
  refine i_stretch hb hc (fun s1 s2 s3 => ?_) (fun q => fin (fun z => q z.2.1) M (fun _ _ => rfl))
  refine i_bak hB ha hd (fun q M' hf => fin (fun z => q ⟨z.1, z.2.2.1, z.2.2.2⟩) M' hf) (fun c1 c3 q M' hf hb' hnn hh => ?_)
  have hS := cnt_lgs (s := a) hB.1 d
  have hI' : Inv M' := hI.frX (fun c hc => hf c (by omega))
  obtain ⟨F, eb⟩ : ∃ F : Nat, b = (F : Int) := ⟨b.toNat, by omega⟩
  obtain ⟨N, ec⟩ : ∃ N : Nat, c = (F : Int) + (N : Int) - 1 := ⟨(c - b + 1).toNat, by omega⟩
  subst eb ec
  have hz := sOk_range hB hS q F (by omega)
  have hz' : M' 82 (F : Int) = sHi (M 103) a (cnt (M 103) a d) F ∧ 0 ≤ sHi (M 103) a (cnt (M 103) a d) F ∧ sHi (M 103) a (cnt (M 103) a d) F ≤ 1000 := ⟨(hh F (by omega)).2, by omega, hz.2.2⟩
  have hC' : Cal M' n (M 125) := by
    refine ⟨by rw [hf 100 (by omega)]; exact hC.1, h7, ?_⟩
    rw [hf 101 (by omega)]
    exact hC.2.2
  have hp : 0 < 2 ^ n := Nat.two_pow_pos n
  have p7 := pow7 h7
  have pl := plR_le (coV (M 103) a (cnt (M 103) a d) (M 125) n F N) (2 ^ n - 1)
  apply Bd.of; unfold wX7_cheapest
  refine b_worst (t := 0) (S := cnt (M 103) a d) hb' c1 hnn.1 (by omega) (by omega) hz' hC' (by decide) ⟨2 ^ n, ?_⟩
  refine l_xpl (X := 2 ^ n - 1) hb' c1 hnn.1 (by omega) (by omega) hz' hC' (by omega) ?_ (2 ^ n) 0 (by omega) (by omega)
  refine m_plan (n := n) (mc := M 125) (hf 103 (by omega)) hB (by rw [hf 102 (by omega)]; exact hn) h7 (hf 125 (by omega)) hr ha hb hc hd (fun _ _ _ _ M3 hf3 => ?_) (fun z => absurd ⟨c1, ⟨s1, s2, s3⟩, c3, q⟩ z)
  rw [Int.toNat_natCast, show ((F : Int) + (N : Int) - 1 - (F : Int) + 1).toNat = N by omega]
  have hr : inR (plV (M 103) a (cnt (M 103) a d) (M 125) n F N : Nat) := by unfold plV; exact (inRof ⟨by omega, by omega⟩)
  exact ⟨hr, hr, rfl, hk _ (hI'.frM hf3)⟩
/-! judge: ship a, bits b, days c to d, known e -/
theorem m_judge (hB : M 103 = B) (h : BkR bb B) (hn : M 102 47 = (n : Int)) (h7 : n ≤ 7) (hmc : M 125 = mc) (hr : ∀ c : Nat, c < n → inR (mc (c : Int))) (ha : inR a) (hb : inR b) (hc : inR c) (hd : inR d) (he : inR e) (h1 : (0 ≤ a ∧ a < B 721) → (0 ≤ b ∧ b < 2 ^ n) → (0 ≤ c ∧ c ≤ d ∧ d ≤ 119) → (0 ≤ e ∧ e ≤ 119) → sOk B a (cnt B a e) → ∀ M', FrM M M' → kk (coV B a (cnt B a e) mc n c.toNat (d - c + 1).toNat b.toNat) M') (h0 : ¬ ((0 ≤ a ∧ a < B 721) ∧ (0 ≤ b ∧ b < 2 ^ n) ∧ (0 ≤ c ∧ c ≤ d ∧ d ≤ 119) ∧ (0 ≤ e ∧ e ≤ 119) ∧ sOk B a (cnt B a e)) → ∀ M', FrM M M' → kk (-1) M') : Bd (wX12_judge a b c d e M) kk := by
  have n0 := h.1.1
  subst hB hmc
  apply Bd.of; unfold wX12_judge
  refine i_asked ha hc he (by omega) (fun c1 c2 c3 => ?_) (fun q => h0 (fun z => q ⟨z.1, by omega, z.2.2.2.1⟩) _ FrM.refl)
  refine i_in hd hc (inRl (by decide)) (fun c4 => ?_) (fun q => h0 (fun z => q (by omega)) _ FrM.refl)
  refine ⟨hb, ?_⟩
  by_cases q0 : b < 0
  · rw [if_pos q0]; exact h0 (fun z => by omega) _ FrM.refl
  rw [if_neg q0]
  obtain ⟨t, et⟩ : ∃ t : Nat, b = (t : Int) := ⟨b.toNat, by omega⟩
  subst et
  have tb : t < 2147483648 := by have := hb.2; omega
  rw [hn, shrN (by omega) tb]
  have hp : 0 < 2 ^ n := Nat.two_pow_pos n
  have ep : ((2 ^ n : Nat) : Int) = (2 : Int) ^ n := Int.natCast_pow 2 n
  by_cases q1 : t < 2 ^ n
  · rw [if_pos (by rw [Nat.div_eq_of_lt q1]; rfl)]
    refine b_cnt h ha he ?_
    have hS := cnt_lgs (s := a) h.1 e
    refine i_spans rfl h ha hS (cnt_lt h.1) (fun q M' hf hh => ?_) (fun q M' hf => h0 (fun z => q z.2.2.2.2) M' hf)
    have h1 := h1 c1 (by omega) (by omega) c3 q M' hf
    obtain ⟨F, eb⟩ : ∃ F : Nat, c = (F : Int) := ⟨c.toNat, by omega⟩
    obtain ⟨N, ec⟩ : ∃ N : Nat, d = (F : Int) + (N : Int) - 1 := ⟨(d - c + 1).toNat, by omega⟩
    subst eb ec
    rw [Int.toNat_natCast, Int.toNat_natCast, show ((F : Int) + (N : Int) - 1 - (F : Int) + 1).toNat = N by omega] at h1
    have hz := sOk_range h hS q F (by omega)
    have hfc := hf.cal
    have er := hf.row
    rw [(hh F (by omega)).2, ← er]
    refine ⟨⟨by omega, by omega⟩, b_costOf (bb := bb) (n := n) (by rw [er]; exact h) (by rw [er]; exact c1) (by omega) (by omega) (by rw [er]; exact ⟨by omega, hz.2.2⟩) (by rw [hfc.1]; exact hn) h7 (by rw [hfc.2]; exact hr) tb ?_⟩
    rw [er, hfc.2]
    exact h1
  · have hq : 0 < t / 2 ^ n := Nat.div_pos (by omega) hp
    rw [if_neg (by omega)]
    exact h0 (fun z => by omega) _ FrM.refl
theorem op_judge (ha : inR a) (hb : inR b) (hc : inR c) (hd : inR d) (he : inR e) (hI : Inv M) (hk : ∀ M, Inv M → k M) : Bd (wX11_judge a b c d e M) (fun r1 M1 => Bd (wX12_judge a b c d e M1) (fun r2 M2 => inR64 r1 ∧ inR64 r2 ∧ r1 = r2 ∧ k M2)) := by
  have hB := hI.1
  have n0 := hB.1.1
  obtain ⟨n, hC, hn, h7, hr⟩ := hI.cal
  have m64 : inR64 (-1) := ⟨by omega, by omega⟩
  have ep : ((2 ^ n : Nat) : Int) = (2 : Int) ^ n := Int.natCast_pow 2 n
  have hp : 0 < 2 ^ n := Nat.two_pow_pos n
  have p7 := pow7 h7
  have fin : ¬ ((0 ≤ a ∧ a < M 103 721) ∧ (0 ≤ b ∧ b < 2 ^ n) ∧ (0 ≤ c ∧ c ≤ d ∧ d ≤ 119) ∧ (0 ≤ e ∧ e ≤ 119) ∧ sOk (M 103) a (cnt (M 103) a e)) → ∀ M', (∀ c : Nat, c < 72 ∨ 82 < c → M' c = M c) → Bd (wX12_judge a b c d e M') (fun r2 M2 => inR64 (-1) ∧ inR64 r2 ∧ -1 = r2 ∧ k M2) := fun q M' hf => m_judge (n := n) (mc := M 125) (hf 103 (by omega)) hB (by rw [hf 102 (by omega)]; exact hn) h7 (hf 125 (by omega)) hr ha hb hc hd he (fun q1 q2 q3 q4 q5 => absurd ⟨q1, q2, q3, q4, q5⟩ q) (fun _ M2 hf2 => ⟨m64, m64, rfl, hk _ ((hI.frX (fun c hc => hf c (by omega))).frM hf2)⟩)
  apply Bd.of; unfold wX11_judge
  rw [hC.1, shl1 (by omega)]
  refine i_within hb inR0 (inRof ⟨by omega, by omega⟩) (fun c2 => ?_) (fun q => fin (fun z => q (by omega)) M (fun _ _ => rfl))
  refine i_stretch hc hd (fun s1 s2 s3 => ?_) (fun q => fin (fun z => q z.2.2.1) M (fun _ _ => rfl))
  refine i_bak hB ha he (fun q M' hf => fin (fun z => q ⟨z.1, z.2.2.2.1, z.2.2.2.2⟩) M' hf) (fun c1 c3 q M' hf hb' hnn hh => ?_)
  have hS := cnt_lgs (s := a) hB.1 e
  have hI' : Inv M' := hI.frX (fun c hc => hf c (by omega))
  obtain ⟨t, et⟩ : ∃ t : Nat, b = (t : Int) := ⟨b.toNat, by omega⟩
  obtain ⟨F, eb⟩ : ∃ F : Nat, c = (F : Int) := ⟨c.toNat, by omega⟩
  obtain ⟨N, ec⟩ : ∃ N : Nat, d = (F : Int) + (N : Int) - 1 := ⟨(d - c + 1).toNat, by omega⟩
  subst et eb ec
  have hz := sOk_range hB hS q F (by omega)
  have hz' : M' 82 (F : Int) = sHi (M 103) a (cnt (M 103) a e) F ∧ 0 ≤ sHi (M 103) a (cnt (M 103) a e) F ∧ sHi (M 103) a (cnt (M 103) a e) F ≤ 1000 := ⟨(hh F (by omega)).2, by omega, hz.2.2⟩
  have hC' : Cal M' n (M 125) := by
    refine ⟨by rw [hf 100 (by omega)]; exact hC.1, h7, ?_⟩
    rw [hf 101 (by omega)]
    exact hC.2.2
  have r := coV_range (mc := M 125) (n := n) (t := t) (N := N) hB c1 hz'.2 (by omega)
  have r64 : inR64 (coV (M 103) a (cnt (M 103) a e) (M 125) n F N t) := ⟨by omega, by omega⟩
  refine b_worst (S := cnt (M 103) a e) hb' c1 hnn.1 (by omega) (by omega) hz' hC' (by omega) ?_
  refine m_judge (n := n) (mc := M 125) (hf 103 (by omega)) hB (by rw [hf 102 (by omega)]; exact hn) h7 (hf 125 (by omega)) hr ha hb hc hd he (fun _ _ _ _ _ M3 hf3 => ?_) (fun z => absurd ⟨c1, by omega, ⟨s1, s2, s3⟩, c3, q⟩ z)
  rw [Int.toNat_natCast, Int.toNat_natCast, show ((F : Int) + (N : Int) - 1 - (F : Int) + 1).toNat = N by omega]
  exact ⟨r64, r64, rfl, hk _ (hI'.frM hf3)⟩
end Plan
