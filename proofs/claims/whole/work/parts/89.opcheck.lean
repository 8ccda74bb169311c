/-! ===== check: the op ===== -/
theorem i2b_sg : ∀ m : Nat, m < 256 → i2bI (if (m : Int) < 128 then (m : Int) else (m : Int) - 256) = (if (m : Int) < 128 then (m : Int) else (m : Int) - 256) := by decide +kernel
def FrC (M M' : Mm) : Prop := (∀ c : Nat, c ≠ 102 → c ≠ 106 → c ≠ 107 → c ≠ 108 → c ≠ 109 → c ≠ 110 → c ≠ 115 → M' c = M c) ∧ ∀ i, i ≠ 8 → i ≠ 9 → i ≠ 25 → i ≠ 26 → i ≠ 27 → i ≠ 28 → i ≠ 29 → i ≠ 30 → i ≠ 31 → M' 102 i = M 102 i
theorem FrC.refl {M : Mm} : FrC M M := ⟨fun _ _ _ _ _ _ _ _ => rfl, fun _ _ _ _ _ _ _ _ _ _ => rfl⟩
theorem FrC.trans {M M1 M2 : Mm} (h1 : FrC M M1) (h2 : FrC M1 M2) : FrC M M2 := ⟨fun c a b d e f g h => (h2.1 c a b d e f g h).trans (h1.1 c a b d e f g h), fun i a b d e f g h j k => (h2.2 i a b d e f g h j k).trans (h1.2 i a b d e f g h j k)⟩
theorem FrD.toC {M M' : Mm} (h : FrD M M') : FrC M M' := ⟨fun c a _ _ _ _ _ _ => h.1 c a, fun i _ _ _ _ a b _ d _ => h.2 i a b d⟩
theorem FrO.toC {M M' : Mm} (h : FrO M M') : FrC M M' := ⟨fun c a b d e f g _ => h.1 c a b d e f g, fun i a b _ _ _ _ _ _ _ => h.2 i a b⟩
noncomputable def chR (B : Int → Int) (s : Int) (S : Nat) (b : Nat → Int) (n : Nat) (W : Int) : Bool × Nat := rall b n (rpR b n (agn B s S) (wtB B) W 30 (snd B s S) 0 1 (sk b n 0))
section Check
variable {M : Mm} {k : Mm → Prop} {kk : Int → Mm → Prop} {a b c s : Int} {B : Int → Int} {S n : Nat} {bb : Mm} {by_ : Nat → Int}
theorem l_mcp {Q : Int → Mm → Prop} {v1 v2 v3 : Int} (hn : n ≤ 400) : ∀ (k j : Nat) (M : Mm), j + k = n → M 102 26 = (n : Int) → (∀ i : Nat, i < n → M 114 (i : Int) = (if by_ i < 128 then by_ i else by_ i - 256) ∧ 0 ≤ by_ i ∧ by_ i ≤ 255) → (∀ i : Nat, i < j → M 115 (i : Int) = (if by_ i < 128 then by_ i else by_ i - 256)) → (∀ M', (∀ c : Nat, c ≠ 115 → M' c = M c) → BM M' by_ n → wX12_check_62 Q v1 v2 v3 M') → wX12_check_33 Q v1 v2 v3 (k + 1) (j : Int) M := by
  intro k
  induction k with
  | zero =>
    intro j M hj h26 h114 h115 hk
    unfold wX12_check_33
    rw [h26]
    refine ⟨(inRof ⟨by omega, by omega⟩), (inRof ⟨by omega, by omega⟩), ?_⟩
    rw [if_neg (by omega)]
    exact hk M (fun _ _ => rfl) ⟨h26, hn, fun i hi => ⟨h115 i (by omega), (h114 i hi).2⟩⟩
  | succ k ih =>
    intro j M hj h26 h114 h115 hk
    unfold wX12_check_33
    rw [h26]
    refine ⟨(inRof ⟨by omega, by omega⟩), (inRof ⟨by omega, by omega⟩), ?_⟩
    rw [if_pos (by omega)]
    have hb := h114 j (by omega)
    obtain ⟨m, hm⟩ : ∃ m : Nat, by_ j = (m : Int) := ⟨(by_ j).toNat, by omega⟩
    have e : i2bI (M 114 (j : Int)) = (if by_ j < 128 then by_ j else by_ j - 256) := by
      rw [hb.1, hm]
      exact i2b_sg m (by omega)
    rw [e]
    refine ⟨⟨by omega, by omega⟩, ih (j + 1) _ (by omega) (by rw [up_ne (by decide)]; exact h26) (fun i hi => by rw [up_ne (by decide)]; exact h114 i hi) (fun i hi => ?_) (fun M' k1 k2 => hk M' (fun c hc => by rw [k1 c hc, up_cell hc]) k2)⟩
    by_cases q : i = j
    · subst q; rw [up_eq]
    · rw [up_nei (by omega)]; exact h115 i (by omega)
theorem l_c119 {Q : Int → Mm → Prop} (h1 : M 102 30 = -1 → ∀ M', FrC M M' → M' 102 25 = M 102 25 → M' 102 29 = -1 → Q 1 M') (h0 : Fl M → ∀ M', FrC M M' → M' 102 25 = M 102 25 → M' 102 29 = M 102 30 → Q 0 M') (hf : M 102 30 = -1 ∨ Fl M) : wX12_check_119 Q M := by
  have f1 : FrC M (up M 102 29 (M 102 30)) := ⟨fun c a _ _ _ _ _ _ => up_cell a, fun i _ _ _ _ _ _ a _ _ => up_nei a⟩
  unfold wX12_check_119
  rcases hf with hf | hf
  · refine i_good1 (by rw [up_nei (by decide)]; exact hf) (h1 hf _ f1 (by rw [up_nei (by decide)]) (by rw [up_eq]; exact hf))
  · refine i_good0 ?_ (h0 hf _ f1 (by rw [up_nei (by decide)]) up_eq)
    unfold Fl
    rw [up_nei (by decide)]
    exact hf
theorem m_check (hB : M 103 = B) (h : BkR bb B) (ha : inR a) (hb : inR b) (hc : inR c) (hn : n ≤ 400) (h25 : M 102 25 = (n : Int)) (h114 : ∀ i : Nat, i < n → M 114 (i : Int) = (if by_ i < 128 then by_ i else by_ i - 256) ∧ 0 ≤ by_ i ∧ by_ i ≤ 255) (h1 : (0 ≤ a ∧ a < B 721) → (0 ≤ b ∧ b ≤ 119) → (chR B a (cnt B a b) by_ n c).1 = true → ∀ M', FrC M M' → M' 102 25 = 0 → M' 102 29 = -1 → kk 1 M') (h2 : (0 ≤ a ∧ a < B 721) → (0 ≤ b ∧ b ≤ 119) → (chR B a (cnt B a b) by_ n c).1 = false → ∀ M', FrC M M' → M' 102 25 = 0 → M' 102 29 = ((chR B a (cnt B a b) by_ n c).2 : Nat) → kk 0 M') (h0 : ¬ ((0 ≤ a ∧ a < B 721) ∧ (0 ≤ b ∧ b ≤ 119)) → ∀ M', FrC M M' → M' 102 25 = 0 → M' 102 29 = M 102 29 → kk (-1) M') : Bd (wX12_check a b c M) kk := by
  have n0 := h.1.1
  subst hB
  have f0 : FrC M (up (up M 102 26 (M 102 25)) 102 25 0) := ⟨fun c a _ _ _ _ _ _ => by rw [up_cell a, up_cell a], fun i _ _ a d _ _ _ _ _ => by rw [up_nei a, up_nei d]⟩
  have e0 : (up (up M 102 26 (M 102 25)) 102 25 0) 103 = M 103 := by rw [up_cell (by decide), up_cell (by decide)]
  have t25 : (up (up M 102 26 (M 102 25)) 102 25 0) 102 25 = 0 := up_eq
  have t26 : (up (up M 102 26 (M 102 25)) 102 25 0) 102 26 = (n : Int) := by rw [up_nei (by decide), up_eq]; exact h25
  have t29 : (up (up M 102 26 (M 102 25)) 102 25 0) 102 29 = M 102 29 := by rw [up_nei (by decide), up_nei (by decide)]
  have t114 : (up (up M 102 26 (M 102 25)) 102 25 0) 114 = M 114 := by rw [up_cell (by decide), up_cell (by decide)]
  apply Bd.of; unfold wX12_check
  generalize up (up M 102 26 (M 102 25)) 102 25 0 = M0 at *
  refine i_mShip ha (by rw [e0]; omega) (fun c1 => ?_) (fun q => h0 (fun z => q (by rw [e0]; exact z.1)) M0 f0 t25 t29)
  refine i_mDay hb (fun c2 => ?_) (fun q => h0 (fun z => q z.2) M0 f0 t25 t29)
  rw [e0] at c1
  refine ⟨n + 1, l_mcp (by_ := by_) hn n 0 M0 (by omega) t26 (fun i hi => by rw [t114]; exact h114 i hi) (fun i hi => by omega) (fun M1 k1 hbm => ?_)⟩
  have f1 : FrC M0 M1 := ⟨fun c _ _ _ _ _ _ a => k1 c a, fun i _ _ _ _ _ _ _ _ _ => by rw [k1 102 (by decide)]⟩
  have e1 : M1 103 = M 103 := by rw [k1 103 (by decide), e0]
  have hS := cnt_lgs (s := a) h.1 b
  unfold wX12_check_62
  refine b_opening e1 h ha hb (fun M2 f2 g2 => ?_)
  have gm : Gm M2 (agn (M 103) a (cnt (M 103) a b)) (wtB (M 103)) (snd (M 103) a (cnt (M 103) a b)) := mk_gm (by rw [f2.row]; exact e1) h hS g2
  have hbm2 : BM M2 by_ n := by
    unfold BM
    rw [f2.2 26 (by decide) (by decide), f2.1 115 (by decide) (by decide) (by decide) (by decide) (by decide) (by decide)]
    exact hbm
  have f3 : FrC M2 (up (up (up M2 102 31 c) 102 30 (-1)) 102 28 0) := ⟨fun c a _ _ _ _ _ _ => by rw [up_cell a, up_cell a, up_cell a], fun i _ _ _ _ _ a _ d e => by rw [up_nei a, up_nei d, up_nei e]⟩
  have s25 : (up (up (up M2 102 31 c) 102 30 (-1)) 102 28 0) 102 25 = 0 := by rw [up_nei (by decide), up_nei (by decide), up_nei (by decide), f2.2 25 (by decide) (by decide), k1 102 (by decide)]; exact t25
  have s28 : (up (up (up M2 102 31 c) 102 30 (-1)) 102 28 0) 102 28 = ((0 : Nat) : Int) := up_eq
  have s30 : (up (up (up M2 102 31 c) 102 30 (-1)) 102 28 0) 102 30 = -1 := by rw [up_nei (by decide), up_eq]
  have s31 : (up (up (up M2 102 31 c) 102 30 (-1)) 102 28 0) 102 31 = c := by rw [up_nei (by decide), up_nei (by decide), up_eq]
  have gm3 : Gm (up (up (up M2 102 31 c) 102 30 (-1)) 102 28 0) (agn (M 103) a (cnt (M 103) a b)) (wtB (M 103)) (snd (M 103) a (cnt (M 103) a b)) := gm.fr (by rw [up_cell (by decide), up_cell (by decide), up_cell (by decide)]) (by rw [up_cell (by decide), up_cell (by decide), up_cell (by decide)])
  have hbm3 : BM (up (up (up M2 102 31 c) 102 30 (-1)) 102 28 0) by_ n := by
    unfold BM
    rw [up_nei (by decide), up_nei (by decide), up_nei (by decide), up_cell (show 115 ≠ 102 by decide), up_cell (show 115 ≠ 102 by decide), up_cell (show 115 ≠ 102 by decide)]
    exact hbm2
  have fA : FrC M (up (up (up M2 102 31 c) 102 30 (-1)) 102 28 0) := ((f0.trans f1).trans f2.toC).trans f3
  generalize up (up (up M2 102 31 c) 102 30 (-1)) 102 28 0 = M3 at *
  have k0 := (sk_range (b := by_) (Nat.zero_le n)).2
  have i1 := rpR_le (b := by_) (g := agn (M 103) a (cnt (M 103) a b)) (wt := wtB (M 103)) (W := c) 30 (snd (M 103) a (cnt (M 103) a b)) 0 1 (sk by_ n 0) k0 snd_lt
  refine b_next (p := 0) hbm3 (Nat.zero_le n) s28 (fun M4 f4 hb4 ht4 => ?_)
  have q25 : M4 102 25 = 0 := by rw [f4.2 25 (by decide) (by decide)]; exact s25
  have key := b_mp (kv := fun M12 => Bd (wX12_good M12) (fun r16 M17 => inR r16 ∧ (if r16 = 0 then wX12_check_119 kk M17 else inR (M17 102 27) ∧ inR (M17 102 26) ∧ (if M17 102 27 < M17 102 26 then Bv (wX12_faults M17) (fun M26 => wX12_check_119 kk M26) else wX12_check_119 kk M17)))) (b := by_) (n := n) (W := c) hc evn_agn 30 (snd (M 103) a (cnt (M 103) a b)) 1 (sk by_ n 0) 0 M4 (by omega) snd_lt (fun _ z => z) k0 (by omega) (f4.gm gm3) hb4 ht4 (f4.good s30) (by rw [f4.s31]; exact s31) (fun z M5 f5 hb5 ht5 => ?_) (fun z M5 f5 e5 => ?_)
  · exact key
  · have g5 := f5.good (f4.good s30)
    have hf5 : FrC M M5 := (fA.trans f4.toD.toC).trans f5.toD.toC
    have p25 : M5 102 25 = 0 := by rw [f5.2 25 (by decide) (by decide)]; exact q25
    refine i_good1 g5 ?_
    rw [ht5.1, hb5.1]
    refine ⟨(inRof ⟨by omega, by omega⟩), (inRof ⟨by omega, by omega⟩), ?_⟩
    unfold chR rall at h1 h2
    rw [if_pos z] at h1 h2
    by_cases q : (rpR by_ n (agn (M 103) a (cnt (M 103) a b)) (wtB (M 103)) c 30 (snd (M 103) a (cnt (M 103) a b)) 0 1 (sk by_ n 0)).2 < n
    · rw [if_pos (by omega)]
      have hbq := (hb5.2.2 _ q).2
      have et : ¬ tk by_ n (rpR by_ n (agn (M 103) a (cnt (M 103) a b)) (wtB (M 103)) c 30 (snd (M 103) a (cnt (M 103) a b)) 0 1 (sk by_ n 0)).2 = -1 := by
        unfold tk
        rw [if_pos q]
        split <;> omega
      rw [if_neg et] at h2
      refine b_faults1 g5 ht5 (fun M6 f6 e6 => ?_)
      have fl : Fl M6 := by unfold Fl; rw [e6]; omega
      refine l_c119 (fun z => by rw [e6] at z; omega) (fun _ M7 f7 x1 x2 => h2 c1 c2 rfl M7 ((hf5.trans f6.toC).trans f7) (by rw [x1, f6.2 25 (by decide) (by decide) (by decide)]; exact p25) (by rw [x2, e6])) (Or.inr fl)
    · rw [if_neg (by omega)]
      have et : tk by_ n (rpR by_ n (agn (M 103) a (cnt (M 103) a b)) (wtB (M 103)) c 30 (snd (M 103) a (cnt (M 103) a b)) 0 1 (sk by_ n 0)).2 = -1 := by
        unfold tk
        rw [if_neg q]
      rw [if_pos et] at h1
      refine l_c119 (fun _ M7 f7 x1 x2 => h1 c1 c2 rfl M7 (hf5.trans f7) (by rw [x1]; exact p25) x2) (fun z => by have := z.1; omega) (Or.inl g5)
  · have hf5 : FrC M M5 := (fA.trans f4.toD.toC).trans f5.toC
    have p25 : M5 102 25 = 0 := by rw [f5.2 25 (by decide) (by decide) (by decide)]; exact q25
    have fl : Fl M5 := by unfold Fl; rw [e5]; omega
    refine i_good0 fl ?_
    unfold chR rall at h2
    rw [if_neg (by rw [z]; decide)] at h2
    exact l_c119 (fun z => by rw [e5] at z; omega) (fun _ M7 f7 x1 x2 => h2 c1 c2 z M7 (hf5.trans f7) (by rw [x1]; exact p25) (by rw [x2, e5])) (Or.inr fl)
theorem Inv.chk {M' : Mm} (hI : Inv M) (hc : ∀ c : Nat, c < 72 ∨ 85 < c → c ≠ 88 → c ≠ 102 → c ≠ 106 → c ≠ 107 → c ≠ 108 → c ≠ 109 → c ≠ 110 → c ≠ 115 → M' c = M c) (h102 : ∀ i, i ≠ 8 → i ≠ 9 → i ≠ 25 → i ≠ 26 → i ≠ 27 → i ≠ 28 → i ≠ 29 → i ≠ 30 → i ≠ 31 → M' 102 i = M 102 i) (hl : M' 88 2 = 0) (hl' : M' 102 25 = 0) (hf : M' 88 3 = M' 102 29 ∧ -1 ≤ M' 88 3 ∧ M' 88 3 ≤ 400) : Inv M' := by
  obtain ⟨-, -, -, -, i5, i6, i7, i8, i9, i10, i11⟩ := id hI
  have hcd : ∀ c : Nat, c ∈ [0, 71, 86, 87, 89, 90, 98, 99, 100, 101, 103, 104, 105, 111, 114, 122, 124, 125] → M' c = M c := fun c hc' => by
    have : ∀ c ∈ [0, 71, 86, 87, 89, 90, 98, 99, 100, 101, 103, 104, 105, 111, 114, 122, 124, 125], (c < 72 ∨ 85 < c) ∧ c ≠ 88 ∧ c ≠ 102 ∧ c ≠ 106 ∧ c ≠ 107 ∧ c ≠ 108 ∧ c ≠ 109 ∧ c ≠ 110 ∧ c ≠ 115 := by decide
    obtain ⟨x0, x1, x2, x3, x4, x5, x6, x7, x8⟩ := this c hc'
    exact hc c x0 x1 x2 x3 x4 x5 x6 x7 x8
  have h2d : ∀ i, i ∈ ([0, 14, 17, 38, 41, 47] : List Int) → M' 102 i = M 102 i := fun i hi => by
    have : ∀ i ∈ ([0, 14, 17, 38, 41, 47] : List Int), i ≠ 8 ∧ i ≠ 9 ∧ i ≠ 25 ∧ i ≠ 26 ∧ i ≠ 27 ∧ i ≠ 28 ∧ i ≠ 29 ∧ i ≠ 30 ∧ i ≠ 31 := by decide
    obtain ⟨x1, x2, x3, x4, x5, x6, x7, x8, x9⟩ := this i hi
    exact h102 i x1 x2 x3 x4 x5 x6 x7 x8 x9
  refine hI.rest (fun c g0 g1 => hc c (by omega) (by omega) (by omega) (by omega) (by omega) (by omega) (by omega) (by omega) (by omega)) (hcd 103 (by decide)) (hcd 104 (by decide)) (hcd 105 (by decide)) ?_ ?_ ?_ ?_ ?_ ?_ ?_
  · rw [hcd 0 (by decide), h2d 0 (by decide)]; exact i5
  · rw [hcd 0 (by decide), h2d 14 (by decide)]; exact i6
  · rw [hcd 86 (by decide), hcd 87 (by decide), h2d 17 (by decide), hcd 111 (by decide)]; exact i7
  · rw [hl, hl', hcd 89 (by decide), hcd 114 (by decide)]
    exact ⟨by omega, hf, fun i x0 x1 => by omega⟩
  · rw [hcd 90 (by decide), hcd 98 (by decide), h2d 38 (by decide), hcd 122 (by decide)]; exact i9
  · rw [hcd 90 (by decide), hcd 99 (by decide), h2d 41 (by decide), hcd 124 (by decide)]; exact i10
  · rw [hcd 100 (by decide), hcd 101 (by decide), h2d 47 (by decide), hcd 125 (by decide)]; exact i11
theorem op_check (ha : inR a) (hb : inR b) (hc : inR c) (hI : Inv M) (hk : ∀ M, Inv M → k M) : Bd (wX11_check a b c M) (fun r1 M1 => Bd (wX12_check a b c M1) (fun r2 M2 => inR r1 ∧ inR r2 ∧ r1 = r2 ∧ k M2)) := by
  have hB := hI.1
  have n0 := hB.1.1
  obtain ⟨⟨t0, t1, t2⟩, ⟨t3, t4, t5⟩, t6⟩ := hI.2.2.2.2.2.2.2.1
  obtain ⟨n, en'⟩ : ∃ n : Nat, M 88 2 = (n : Int) := ⟨(M 88 2).toNat, by omega⟩
  have hn : n ≤ 400 := by omega
  have h25 : M 102 25 = (n : Int) := by omega
  have h114 : ∀ i : Nat, i < n → M 114 (i : Int) = (if M 89 (i : Int) < 128 then M 89 (i : Int) else M 89 (i : Int) - 256) ∧ 0 ≤ M 89 (i : Int) ∧ M 89 (i : Int) ≤ 255 := fun i hi => by
    have := t6 (i : Int) (by omega) (by omega)
    exact ⟨this.2, this.1⟩
  have fin : ¬ ((0 ≤ a ∧ a < M 103 721) ∧ (0 ≤ b ∧ b ≤ 119)) → Bd (wX12_check a b c (up M 88 2 0)) (fun r2 M2 => inR (-1) ∧ inR r2 ∧ -1 = r2 ∧ k M2) := fun q => by
    refine m_check (B := M 103) (n := n) (by_ := fun i => M 89 (i : Int)) (up_cell (by decide)) hB ha hb hc hn (by rw [up_ne (by decide)]; exact h25) (fun i hi => by rw [up_ne (by decide)]; exact h114 i hi) (fun q1 q2 => absurd ⟨q1, q2⟩ q) (fun q1 q2 => absurd ⟨q1, q2⟩ q) (fun _ M2 f2 e1 e2 => ⟨(inRl (by decide)), (inRl (by decide)), rfl, hk _ ?_⟩)
    refine hI.chk (fun c _ x1 x2 x3 x4 x5 x6 x7 x8 => by rw [f2.1 c x2 x3 x4 x5 x6 x7 x8, up_cell x1]) (fun i x1 x2 x3 x4 x5 x6 x7 x8 x9 => by rw [f2.2 i x1 x2 x3 x4 x5 x6 x7 x8 x9, up_ne (by decide)]) ?_ e1 ?_
    · rw [f2.1 88 (by decide) (by decide) (by decide) (by decide) (by decide) (by decide) (by decide), up_eq]
    · rw [e2, f2.1 88 (by decide) (by decide) (by decide) (by decide) (by decide) (by decide) (by decide), up_nei (by decide), up_ne (by decide)]
      exact ⟨t3, t4, t5⟩
  apply Bd.of; unfold wX11_check
  refine i_isShip ha (by omega) (fun c1 => ?_) (fun q => fin (fun z => by omega))
  refine i_isDay hb (fun c2 => ?_) (fun q => fin (fun z => by omega))
  refine b_gload hB (by omega) hb (fun M1 k1 k2 k3 k4 => ?_)
  have hS := cnt_lgs (s := a) hB.1 b
  have gx := k4.gx k2 hS
  have hal : alike (foe (M 103) a (cnt (M 103) a b)) (agn (M 103) a (cnt (M 103) a b)) (snd (M 103) a (cnt (M 103) a b)) := fun x y hx hy => foe_iff hx hy
  have k0 := (sk_range (b := fun i => M 89 (i : Int)) (Nat.zero_le n)).2
  have i1 := rpR_le (b := fun i => M 89 (i : Int)) (g := agn (M 103) a (cnt (M 103) a b)) (wt := wtB (M 103)) (W := c) 30 (snd (M 103) a (cnt (M 103) a b)) 0 1 (sk (fun i => M 89 (i : Int)) n 0) k0 snd_lt
  have ech : rall (fun i => M 89 (i : Int)) n (rpR (fun i => M 89 (i : Int)) n (foe (M 103) a (cnt (M 103) a b)) (wtB (M 103)) c 30 (snd (M 103) a (cnt (M 103) a b)) 0 1 (sk (fun i => M 89 (i : Int)) n 0)) = chR (M 103) a (cnt (M 103) a b) (fun i => M 89 (i : Int)) n c := by
    unfold chR
    rw [rpR_al hal 30 _ 0 1 _ snd_lt (fun _ z => z)]
  have hr2 : (chR (M 103) a (cnt (M 103) a b) (fun i => M 89 (i : Int)) n c).2 ≤ n := by
    unfold chR rall
    split
    · split
      · exact i1
      · exact i1
    · exact i1
  have hbt : BT M1 (fun i => M 89 (i : Int)) n := by
    unfold BT
    rw [k1 88 (by omega), k1 89 (by omega)]
    exact ⟨en', hn, fun i hi => ⟨rfl, (h114 i hi).2⟩⟩
  have go : ∀ (M2 : Mm), (∀ c : Nat, c ≠ 88 → M2 c = M1 c) → ∀ r : Int, ((chR (M 103) a (cnt (M 103) a b) (fun i => M 89 (i : Int)) n c).1 = true ∧ r = 1 ∧ M2 88 3 = -1) ∨ ((chR (M 103) a (cnt (M 103) a b) (fun i => M 89 (i : Int)) n c).1 = false ∧ r = 0 ∧ M2 88 3 = ((chR (M 103) a (cnt (M 103) a b) (fun i => M 89 (i : Int)) n c).2 : Nat)) → Bd (wX12_check a b c (up M2 88 2 0)) (fun r2 M2 => inR r ∧ inR r2 ∧ r = r2 ∧ k M2) := by
    intro M2 f2 r hr
    have hf : ∀ c : Nat, c < 72 ∨ 85 < c → c ≠ 88 → up M2 88 2 0 c = M c := fun c q1 q2 => by rw [up_cell q2, f2 c q2, k1 c (by omega)]
    have h102 : up M2 88 2 0 102 = M 102 := hf 102 (by omega) (by decide)
    have inv : ∀ M3, FrC (up M2 88 2 0) M3 → M3 102 25 = 0 → M3 102 29 = M2 88 3 → Inv M3 := by
      intro M3 f3 e1 e2
      have e3 : M3 88 3 = M2 88 3 := by rw [f3.1 88 (by decide) (by decide) (by decide) (by decide) (by decide) (by decide) (by decide), up_nei (by decide)]
      refine hI.chk (fun c x0 x1 x2 x3 x4 x5 x6 x7 x8 => by rw [f3.1 c x2 x3 x4 x5 x6 x7 x8, hf c x0 x1]) (fun i x1 x2 x3 x4 x5 x6 x7 x8 x9 => by rw [f3.2 i x1 x2 x3 x4 x5 x6 x7 x8 x9, h102]) ?_ e1 ?_
      · rw [f3.1 88 (by decide) (by decide) (by decide) (by decide) (by decide) (by decide) (by decide), up_eq]
      · rw [e2, e3]
        refine ⟨rfl, ?_⟩
        rcases hr with hr | hr <;> omega
    refine m_check (B := M 103) (n := n) (by_ := fun i => M 89 (i : Int)) (hf 103 (by omega) (by decide)) hB ha hb hc hn (by rw [h102]; exact h25) (fun i hi => by rw [hf 114 (by omega) (by decide)]; exact h114 i hi) (fun _ _ z M3 f3 e1 e2 => ?_) (fun _ _ z M3 f3 e1 e2 => ?_) (fun z => absurd ⟨by omega, c2⟩ z)
    · rcases hr with ⟨x1, x2, x3⟩ | ⟨x1, x2, x3⟩
      · subst x2
        exact ⟨inR1, inR1, rfl, hk _ (inv M3 f3 e1 (by rw [e2, x3]))⟩
      · rw [x1] at z; exact absurd z (by decide)
    · rcases hr with ⟨x1, x2, x3⟩ | ⟨x1, x2, x3⟩
      · rw [x1] at z; exact absurd z (by decide)
      · subst x2
        exact ⟨inR0, inR0, rfl, hk _ (inv M3 f3 e1 (by rw [e2, x3]))⟩
  refine b_holds (b := fun i => M 89 (i : Int)) (n := n) (S := 0) hc gx k4.2.1 hbt (fun z M2 f2 _ e2 => tJ1 ?_) (fun z M2 f2 _ e2 => tJ0 ?_)
  · rw [ech] at z
    exact go M2 f2 1 (Or.inl ⟨z, rfl, e2⟩)
  · rw [ech] at z e2
    exact go M2 f2 0 (Or.inr ⟨z, rfl, e2⟩)
end Check
