/-! ===== quarrels, quarrel: the ops; the model's opening ===== -/
theorem qIn_none {p : Nat → Nat → Bool} {a : Nat} : ∀ (k b : Nat) (c : Int), 0 ≤ c → (qIn p (-1) a k b c).1 = -1
  | 0, _, _, _ => rfl
  | k + 1, b, c, hc => by
    have i1 := qIn_none (p := p) (a := a) k (b + 1) (c + 1) (by omega)
    have i2 := qIn_none (p := p) (a := a) k (b + 1) c hc
    unfold qIn
    by_cases q : p a b = true
    · rw [if_pos q, if_neg (by omega)]; exact i1
    · rw [if_neg q]; exact i2
theorem qOut_none {p : Nat → Nat → Bool} : ∀ (k a : Nat) (c : Int), 0 ≤ c → (qOut p (-1) k a c).1 = -1
  | 0, _, _, _ => rfl
  | k + 1, a, c, hc => by
    have r := (qIn_range (p := p) (w := -1) (a := a) (24 - a) a c hc).1
    have i1 := qOut_none (p := p) k (a + 1) (qIn p (-1) a (24 - a) a c).2 (by omega)
    unfold qOut
    rw [if_pos (qIn_none _ _ _ hc)]
    exact i1
noncomputable def qsV (B : Int → Int) (s : Int) (S : Nat) (w : Int) : Int := if w = -1 then (qOut (pr B s S) w 24 0 0).2 else (qOut (pr B s S) w 24 0 0).1
section QOps
variable {M : Mm} {k : Mm → Prop} {kk : Int → Mm → Prop} {kv : Mm → Prop} {a b c : Int} {B : Int → Int} {S : Nat} {bb : Mm} {s : Int}
theorem qsV_range {w : Int} : inR (qsV B s S w) := by
  have r := qOut_range (p := pr B s S) (w := w) 24 0 0 (by omega) (by omega)
  unfold qsV
  split <;> exact (inRof ⟨by omega, by omega⟩)
theorem m_quarrels (hB : M 103 = B) (h : BkR bb B) (ha : inR a) (hb : inR b) (hc : inR c) (h1 : (0 ≤ a ∧ a < B 721) → (0 ≤ b ∧ b ≤ 119) → -1 ≤ c → ∀ M', FrM M M' → kk (qsV B a (cnt B a b) c) M') (h0 : ¬ ((0 ≤ a ∧ a < B 721) ∧ (0 ≤ b ∧ b ≤ 119) ∧ -1 ≤ c) → ∀ M', FrM M M' → kk (-1) M') : Bd (wX12_quarrels a b c M) kk := by
  have n0 := h.1.1
  subst hB
  apply Bd.of; unfold wX12_quarrels
  refine i_mShip ha (by omega) (fun c1 => ?_) (fun q => h0 (fun z => q z.1) _ FrM.refl)
  refine i_mDay hb (fun c2 => ?_) (fun q => h0 (fun z => q z.2.1) _ FrM.refl)
  refine ⟨hc, ?_⟩
  by_cases c3 : c < -1
  · rw [if_pos c3]; exact h0 (fun z => by omega) _ FrM.refl
  · rw [if_neg c3]
    refine b_cnt h ha hb ⟨25, ?_⟩
    refine l_qout h (cnt_lgs h.1 b) (cnt_lt h.1) hc 24 0 0 M rfl (by omega) (by omega) rfl (fun M' hf => ?_)
    have h1 := h1 c1 c2 (by omega) M' hf
    unfold qsV at h1
    by_cases q : c = -1
    · rw [if_pos q] at h1 ⊢
      subst q
      rw [if_pos (qOut_none _ _ _ (by omega))]
      exact h1
    · rw [if_neg q] at h1 ⊢
      exact h1
theorem op_quarrels (ha : inR a) (hb : inR b) (hc : inR c) (hI : Inv M) (hk : ∀ M, Inv M → k M) : Bd (wX11_quarrels a b c M) (fun r1 M1 => Bd (wX12_quarrels a b c M1) (fun r2 M2 => inR r1 ∧ inR r2 ∧ r1 = r2 ∧ k M2)) := by
  have hB := hI.1
  have n0 := hB.1.1
  have fin : ¬ ((0 ≤ a ∧ a < M 103 721) ∧ (0 ≤ b ∧ b ≤ 119) ∧ -1 ≤ c) → Bd (wX12_quarrels a b c M) (fun r2 M2 => inR (-1) ∧ inR r2 ∧ -1 = r2 ∧ k M2) := fun q => m_quarrels rfl hB ha hb hc (fun q1 q2 q3 => absurd ⟨q1, q2, q3⟩ q) (fun _ M2 hf => ⟨(inRl (by decide)), (inRl (by decide)), rfl, hk _ (hI.frM hf)⟩)
  apply Bd.of; unfold wX11_quarrels
  refine i_isShip ha (by omega) (fun c1 => ?_) (fun q => fin (fun z => by omega))
  refine i_isDay hb (fun c2 => ?_) (fun q => fin (fun z => by omega))
  refine ⟨hc, ?_⟩
  by_cases c3 : c < -1
  · rw [if_pos c3]; exact fin (fun z => by omega)
  rw [if_neg c3]
  refine b_gload hB (by omega) hb (fun M' k1 k2 k3 k4 => ?_)
  have hI' : Inv M' := hI.frX (fun c hc => k1 c (by omega))
  have go : ∀ r : Int, r = qsV (M 103) a (cnt (M 103) a b) c → Bd (wX12_quarrels a b c M') (fun r2 M2 => inR r ∧ inR r2 ∧ r = r2 ∧ k M2) := by
    intro r hr
    refine m_quarrels (k1 103 (by omega)) hB ha hb hc (fun _ _ _ M2 hf => ?_) (fun z => absurd ⟨by omega, c2, by omega⟩ z)
    rw [hr]
    exact ⟨qsV_range, qsV_range, rfl, hk _ (hI'.frM hf)⟩
  by_cases q : c = -1
  · rw [if_pos q]
    apply Bd.of; unfold wX2_pairs
    refine ⟨25, l_prs k4.2.2 24 0 0 rfl (by omega) (go _ ?_)⟩
    unfold qsV
    rw [if_pos q, q]
  · rw [if_neg q]
    apply Bd.of; unfold wX2_pairAt
    refine ⟨25, l_pat hc k4.2.2 24 0 0 rfl (by omega) (by omega) (go _ ?_)⟩
    unfold qsV
    rw [if_neg q]
/-! quarrel -/
theorem i_readable {A C : Mm → Prop} {v : Int} (h : BkR M B) (hv : inR v) (h1 : (0 ≤ v ∧ v < B 724) → rd B v 0 ≠ -1 → ∀ M', (∀ c : Nat, c < 72 ∨ 80 < c → M' c = M c) → BkR M' B → Nt M' B (B (503 + 9 * v)) → C M') (h0 : ¬ ((0 ≤ v ∧ v < B 724) ∧ rd B v 0 ≠ -1) → ∀ M', (∀ c : Nat, c < 72 ∨ 80 < c → M' c = M c) → A M') : Bd (wX11_isReadable v M) (fun r M => inR r ∧ (if r = 0 then A M else C M)) := by
  have n3 := h.1.2.2.2
  have n0 := h.1.1
  apply Bd.of; unfold wX11_isReadable
  refine i_isLog hv (by omega) (fun c1 => ?_) (fun q => tI0 (h0 (fun z => q (by omega)) M (fun _ _ => rfl)))
  have hl : 0 ≤ v ∧ v < B 724 := by omega
  obtain ⟨⟨e16, -⟩, r1, -⟩ := h.2.2.2.2.2.2.1 v hl.1 hl.2
  rw [e16]
  refine ⟨⟨by omega, by omega⟩, b_load h r1 (fun M' k1 k2 k3 k4 => ?_)⟩
  obtain ⟨j, ej⟩ : ∃ j : Nat, v = (j : Int) := ⟨v.toNat, by omega⟩
  subst ej
  have hrb := rbR_lt B (B (503 + 9 * (j : Int))) (B 724).toNat
  have hp2 : 2 ^ (B 724).toNat ≤ 2 ^ 24 := Nat.pow_le_pow_right (by decide) (by omega)
  have hrb' : rb B (B (503 + 9 * (j : Int))) < 2 ^ (B 724).toNat := hrb
  have hb := bit01 (n := rb B (B (503 + 9 * (j : Int)))) (j := j) (by omega) (by omega)
  have hbit := rbR_bit B (B (503 + 9 * (j : Int))) j (B 724).toNat
  have hbit' : (rb B (B (503 + 9 * (j : Int)))).testBit j = true ↔ rd B (j : Int) 0 ≠ -1 := by
    unfold rb
    rw [hbit]
    exact ⟨fun x => x.2.2, fun x => ⟨by omega, rfl, x⟩⟩
  rw [k4.2.1]
  by_cases q : rd B (j : Int) 0 = -1
  · rw [if_neg (fun z => hbit'.mp (hb.1.mp z) q)]
    exact tI0 (h0 (fun z => z.2 q) M' k1)
  · rw [if_pos (hb.1.mpr (hbit'.mpr q))]
    exact tI1 (h1 hl q M' k1 k3 k4)
theorem m_quarrel (hB : M 103 = B) (h : BkR bb B) (ha : inR a) (hb : inR b) (h1 : (0 ≤ a ∧ a < B 724) → (0 ≤ b ∧ b < B 724) → rd B a 0 ≠ -1 → rd B b 0 ≠ -1 → B (503 + 9 * a) = B (503 + 9 * b) → qr B (B (503 + 9 * a)) a.toNat b.toNat = true → ∀ M', FrM M M' → kk 1 M') (h2 : (0 ≤ a ∧ a < B 724) → (0 ≤ b ∧ b < B 724) → rd B a 0 ≠ -1 → rd B b 0 ≠ -1 → ¬ (B (503 + 9 * a) = B (503 + 9 * b) ∧ qr B (B (503 + 9 * a)) a.toNat b.toNat = true) → ∀ M', FrM M M' → kk 0 M') (h0 : ¬ ((0 ≤ a ∧ a < B 724) ∧ (0 ≤ b ∧ b < B 724) ∧ rd B a 0 ≠ -1 ∧ rd B b 0 ≠ -1) → ∀ M', FrM M M' → kk (-1) M') : Bd (wX12_quarrel a b M) kk := by
  have n3 := h.1.2.2.2
  subst hB
  apply Bd.of; unfold wX12_quarrel
  refine i_mLog ha (by omega) (fun c1 => ?_) (fun q => h0 (fun z => q z.1) _ FrM.refl)
  refine i_mLog hb (by omega) (fun c2 => ?_) (fun q => h0 (fun z => q z.2.1) _ FrM.refl)
  have ra := rd_range h c1
  have rb' := rd_range h c2
  refine b_rd h c1 (Or.inl rfl) ⟨(inRof ⟨by omega, by omega⟩), ?_⟩
  by_cases q1 : rd (M 103) a 0 = -1
  · rw [if_pos q1]; exact h0 (fun z => z.2.2.1 q1) _ FrM.refl
  rw [if_neg q1]
  refine b_rd h c2 (Or.inl rfl) ⟨(inRof ⟨by omega, by omega⟩), ?_⟩
  by_cases q2 : rd (M 103) b 0 = -1
  · rw [if_pos q2]; exact h0 (fun z => z.2.2.2 q2) _ FrM.refl
  rw [if_neg q2]
  have h1 := h1 c1 c2 q1 q2
  have h2 := h2 c1 c2 q1 q2
  obtain ⟨x, ex⟩ : ∃ x : Nat, a = (x : Int) := ⟨a.toNat, by omega⟩
  obtain ⟨y, ey⟩ : ∃ y : Nat, b = (y : Int) := ⟨b.toNat, by omega⟩
  subst ex ey
  rw [Int.toNat_natCast, Int.toNat_natCast] at h1 h2
  exact i_quar rfl h c1.2 c2.2 q1 q2 (fun x1 x2 M' hf => h1 x1 x2 M' hf) (fun x M' hf => h2 x M' hf)
theorem op_quarrel (ha : inR a) (hb : inR b) (hI : Inv M) (hk : ∀ M, Inv M → k M) : Bd (wX11_quarrel a b M) (fun r1 M1 => Bd (wX12_quarrel a b M1) (fun r2 M2 => inR r1 ∧ inR r2 ∧ r1 = r2 ∧ k M2)) := by
  have hB := hI.1
  have n0 := hB.1.1
  have n3 := hB.1.2.2.2
  have fin : ¬ ((0 ≤ a ∧ a < M 103 724) ∧ (0 ≤ b ∧ b < M 103 724) ∧ rd (M 103) a 0 ≠ -1 ∧ rd (M 103) b 0 ≠ -1) → ∀ M', (∀ c : Nat, c < 72 ∨ 82 < c → M' c = M c) → Bd (wX12_quarrel a b M') (fun r2 M2 => inR (-1) ∧ inR r2 ∧ -1 = r2 ∧ k M2) := fun q M' hf => m_quarrel (hf 103 (by omega)) hB ha hb (fun q1 q2 q3 q4 => absurd ⟨q1, q2, q3, q4⟩ q) (fun q1 q2 q3 q4 => absurd ⟨q1, q2, q3, q4⟩ q) (fun _ M2 hf2 => ⟨(inRl (by decide)), (inRl (by decide)), rfl, hk _ ((hI.frX (fun c hc => hf c (by omega))).frM hf2)⟩)
  apply Bd.of; unfold wX11_quarrel
  refine i_readable hB hb (fun c1 c2 M1 f1 b1 _ => ?_) (fun q M1 f1 => fin (fun z => q ⟨z.2.1, z.2.2.2⟩) M1 (fun c hc => f1 c (by omega)))
  refine i_readable b1 ha (fun c3 c4 M2 f2 b2 n2 => ?_) (fun q M2 f2 => fin (fun z => q ⟨z.1, z.2.2.1⟩) M2 (fun c hc => by rw [f2 c (by omega), f1 c (by omega)]))
  have hf : ∀ c : Nat, c < 72 ∨ 82 < c → M2 c = M c := fun c hc => by rw [f2 c (by omega), f1 c (by omega)]
  obtain ⟨⟨e16, -⟩, r1, -⟩ := b2.2.2.2.2.2.2.1 a c3.1 c3.2
  obtain ⟨⟨e16', -⟩, r1', -⟩ := b2.2.2.2.2.2.2.1 b c1.1 c1.2
  rw [e16, e16']
  refine ⟨⟨by omega, by omega⟩, ⟨by omega, by omega⟩, (inRof ⟨by omega, by omega⟩), (inRof ⟨by omega, by omega⟩), ?_⟩
  by_cases q : M 103 (503 + 9 * a) = M 103 (503 + 9 * b)
  · rw [if_pos q]
    obtain ⟨x, ex⟩ : ∃ x : Nat, a = (x : Int) := ⟨a.toNat, by omega⟩
    obtain ⟨y, ey⟩ : ∃ y : Nat, b = (y : Int) := ⟨b.toNat, by omega⟩
    subst ex ey
    have p1 := pow24 (show x < 24 by omega)
    have p2 := pow24 (show y < 24 by omega)
    have hlt : 2 ^ x ||| 2 ^ y < 16777216 := Nat.or_lt_two_pow (n := 24) (by omega) (by omega)
    have hS : Lgs (M 103) (M 103 (503 + 9 * (x : Int))) (2 ^ x ||| 2 ^ y) := fun l hl => by
      rw [or_bit] at hl
      rcases hl with e | e <;> subst e
      · exact ⟨c3.2, rfl, c4⟩
      · exact ⟨c1.2, q.symm, c2⟩
    rw [shl1 (by omega), shl1 (by omega), lorN (by omega) (by omega)]
    refine b_bind b2 n2 hlt hS (fun M3 e1 e2 => ⟨fun ho => ⟨inR1, ?_⟩, fun ho => ⟨inR0, ?_⟩⟩)
    · rw [if_neg (show ¬ (1 : Int) = 0 by decide)]
      have hI3 : Inv M3 := hI.frX (fun c hc => by rw [e1 c (by omega) (by omega), hf c (by omega)])
      refine m_quarrel (by rw [e1 103 (by decide) (by decide)]; exact hf 103 (by omega)) hB ha hb (fun _ _ _ _ _ z => ?_) (fun _ _ _ _ _ M4 f4 => ⟨inR0, inR0, rfl, hk _ (hI3.frM f4)⟩) (fun z => absurd ⟨c3, c1, c4, c2⟩ z)
      rw [Int.toNat_natCast, Int.toNat_natCast] at z
      exact absurd ho (qr_iff.mp z)
    · rw [if_pos rfl]
      have hI3 : Inv M3 := hI.frX (fun c hc => by rw [e1 c (by omega) (by omega), hf c (by omega)])
      refine m_quarrel (by rw [e1 103 (by decide) (by decide)]; exact hf 103 (by omega)) hB ha hb (fun _ _ _ _ _ _ M4 f4 => ⟨inR1, inR1, rfl, hk _ (hI3.frM f4)⟩) (fun _ _ _ _ z => ?_) (fun z => absurd ⟨c3, c1, c4, c2⟩ z)
      rw [Int.toNat_natCast, Int.toNat_natCast] at z
      exact absurd ⟨q, qr_iff.mpr ho⟩ z
  · rw [if_neg q]
    have hI3 : Inv M2 := hI.frX (fun c hc => hf c (by omega))
    exact m_quarrel (hf 103 (by omega)) hB ha hb (fun _ _ _ _ z => absurd z q) (fun _ _ _ _ _ M4 f4 => ⟨inR0, inR0, rfl, hk _ (hI3.frM f4)⟩) (fun z => absurd ⟨c3, c1, c4, c2⟩ z)
/-! opening -/
noncomputable def agp (B : Int → Int) (s : Int) (S a b : Nat) : Bool := !decide (a = b) && ((snd B s S).testBit a && (snd B s S).testBit b) && qr B s a b
noncomputable def agn (B : Int → Int) (s : Int) (S a : Nat) : Nat := bset (agp B s S a) 24
/-- memory but for the model's spans and graph -/
def FrO (M M' : Mm) : Prop := (∀ c : Nat, c ≠ 102 → c ≠ 106 → c ≠ 107 → c ≠ 108 → c ≠ 109 → c ≠ 110 → M' c = M c) ∧ ∀ i, i ≠ 8 → i ≠ 9 → M' 102 i = M 102 i
theorem FrO.refl {M : Mm} : FrO M M := ⟨fun _ _ _ _ _ _ _ => rfl, fun _ _ _ => rfl⟩
theorem FrO.trans {M M1 M2 : Mm} (h1 : FrO M M1) (h2 : FrO M1 M2) : FrO M M2 := ⟨fun c a b d e f g => (h2.1 c a b d e f g).trans (h1.1 c a b d e f g), fun i a b => (h2.2 i a b).trans (h1.2 i a b)⟩
theorem FrM.toO {M M' : Mm} (h : FrM M M') : FrO M M' := ⟨fun c a b d e f _ => h.1 c a b d e f, h.2⟩
theorem FrO.u {M : Mm} {i x : Int} : FrO M (up M 110 i x) := ⟨fun c _ _ _ _ _ g => up_cell g, fun i _ _ => up_ne (by decide)⟩
theorem FrO.row {M M' : Mm} (h : FrO M M') : M' 103 = M 103 := h.1 103 (by decide) (by decide) (by decide) (by decide) (by decide) (by decide)
theorem Inv.frO {M M' : Mm} (hI : Inv M) (h : FrO M M') : Inv M' := by
  refine hI.fr (fun c i h1 h2 => ?_)
  by_cases e : c = 102
  · subst e; exact h.2 i (h2 rfl).1 (h2 rfl).2
  · rw [h.1 c e (by rintro rfl; revert h1; decide) (by rintro rfl; revert h1; decide) (by rintro rfl; revert h1; decide) (by rintro rfl; revert h1; decide) (by rintro rfl; revert h1; decide)]
theorem FrM.c110 {M M' : Mm} (h : FrM M M') : M' 110 = M 110 := h.1 110 (by decide) (by decide) (by decide) (by decide) (by decide)
theorem l_oin {Q : Int → Mm → Prop} {k4 : Int → Mm → Prop} {a : Nat} (h : BkR bb B) (hS : Lgs B s S) (ha : a < 24) : ∀ (n j : Nat) (M : Mm), j + n = 24 → M 103 = B → M 110 (a : Int) = (bset (agp B s S a) j : Nat) → (∀ M', FrO M M' → M' 110 (a : Int) = (agn B s S a : Nat) → (∀ i, i ≠ (a : Int) → M' 110 i = M 110 i) → k4 ((a : Int) + 1) M') → wX12_opening_77 Q k4 (snd B s S : Nat) (a : Int) (n + 1) (j : Int) M := by
  intro n
  induction n with
  | zero =>
    intro j M hj hB hm hk
    unfold wX12_opening_77
    refine ⟨(inRof ⟨by omega, by omega⟩), ?_⟩
    rw [if_neg (by omega)]
    have e : j = 24 := by omega
    subst e
    exact hk M FrO.refl hm (fun _ _ => rfl)
  | succ n ih =>
    intro j M hj hB hm hk
    unfold wX12_opening_77
    have sl := snd_lt (B := B) (s := s) (S := S)
    refine ⟨(inRof ⟨by omega, by omega⟩), ?_⟩
    rw [if_pos (by omega)]
    refine ⟨(inRof ⟨by omega, by omega⟩), ?_⟩
    have st : bset (agp B s S a) (j + 1) = if agp B s S a j = true then bset (agp B s S a) j ||| 2 ^ j else bset (agp B s S a) j := rfl
    have skip : ¬ agp B s S a j = true → ∀ M', FrM M M' → wX12_opening_77 Q k4 (snd B s S : Nat) (a : Int) (n + 1) ((j : Int) + 1) M' := by
      intro hz M' hf
      refine ih (j + 1) M' (by omega) (by rw [hf.row]; exact hB) (by rw [hf.c110, hm, st, if_neg hz]) (fun M2 f2 g1 g2 => hk M2 (hf.toO.trans f2) g1 (fun i hi => by rw [g2 i hi, hf.c110]))
    by_cases q : a = j
    · rw [if_pos (by omega)]
      exact skip (by unfold agp; rw [decide_eq_true q, Bool.not_true, Bool.false_and, Bool.false_and]; decide) M FrM.refl
    rw [if_neg (by omega), bit2 (by omega) (by omega) (by omega)]
    by_cases q2 : ((snd B s S).testBit a && (snd B s S).testBit j) = true
    · rw [if_pos q2, if_pos rfl]
      have q' := Bool.and_eq_true_iff.mp q2
      have sa := snd_bit.mp q'.1
      have sj := snd_bit.mp q'.2
      obtain ⟨a1, a2, a3⟩ := hS a sa.2.1
      obtain ⟨b1, b2, b3⟩ := hS j sj.2.1
      have ep : agp B s S a j = qr B s a j := by unfold agp; rw [q2, decide_eq_false q, Bool.not_false, Bool.true_and, Bool.true_and]
      refine i_quar hB h a1 b1 a3 b3 (fun x1 x2 M' hf => ?_) (fun x M' hf => ?_)
      · rw [a2] at x2
        have b24 := bset24 (p := agp B s S a) (n := j) (by omega)
        have hp := pow24 (show j < 24 by omega)
        rw [hf.c110, hm, shl1 (by omega), lorN (by omega) (by omega)]
        refine ⟨⟨by omega, by omega⟩, ?_⟩
        refine ih (j + 1) _ (by omega) (by rw [up_cell (by decide), hf.row]; exact hB) (by rw [up_eq, st, ep, if_pos x2]) (fun M2 f2 g1 g2 => hk M2 ((hf.toO.trans FrO.u).trans f2) g1 (fun i hi => by rw [g2 i hi, up_nei hi, hf.c110]))
      · have x2 : ¬ qr B s a j = true := fun z => x ⟨by rw [a2, b2], by rw [a2]; exact z⟩
        exact skip (by rw [ep]; exact x2) M' hf
    · rw [if_neg q2, if_neg (by decide)]
      exact skip (by unfold agp; rw [(Bool.not_eq_true _).mp q2, Bool.and_false, Bool.false_and]; decide) M FrM.refl
theorem l_oout {Q : Int → Mm → Prop} (h : BkR bb B) (hS : Lgs B s S) : ∀ (n j : Nat) (M : Mm), j + n = 24 → M 103 = B → (∀ a : Nat, a < j → M 110 (a : Int) = (agn B s S a : Nat)) → (∀ M', FrO M M' → (∀ a : Nat, a < 24 → M' 110 (a : Int) = (agn B s S a : Nat)) → Q (snd B s S : Nat) M') → wX12_opening_59 Q (snd B s S : Nat) (n + 1) (j : Int) M := by
  intro n
  induction n with
  | zero =>
    intro j M hj hB hm hk
    unfold wX12_opening_59
    refine ⟨(inRof ⟨by omega, by omega⟩), ?_⟩
    rw [if_neg (by omega)]
    exact hk M FrO.refl (fun a ha => hm a (by omega))
  | succ n ih =>
    intro j M hj hB hm hk
    unfold wX12_opening_59
    refine ⟨(inRof ⟨by omega, by omega⟩), ?_⟩
    rw [if_pos (by omega)]
    refine ⟨⟨by omega, by omega⟩, 25, ?_⟩
    refine l_oin h hS (by omega) 24 0 _ rfl (by rw [up_cell (by decide)]; exact hB) up_eq (fun M' f1 g1 g2 => ?_)
    refine ih (j + 1) M' (by omega) (by rw [f1.row, up_cell (by decide)]; exact hB) (fun a ha => ?_) (fun M2 f2 g3 => hk M2 ((FrO.u.trans f1).trans f2) g3)
    by_cases q : a = j
    · subst q; exact g1
    · rw [g2 (a : Int) (by omega), up_nei (by omega)]; exact hm a (by omega)
theorem l_op1 {Q : Int → Mm → Prop} (h : BkR bb B) (hS : Lgs B s S) (hSn : S < 16777216) : ∀ (n j : Nat) (M : Mm), j + n = 24 → M 103 = B → (∀ M', FrO M M' → (∀ a : Nat, a < 24 → M' 110 (a : Int) = (agn B s S a : Nat)) → Q (snd B s S : Nat) M') → wX12_opening_13 Q (S : Int) (n + 1) (bset (sdp B s S) j : Nat) (j : Int) M := by
  intro n
  induction n with
  | zero =>
    intro j M hj hB hk
    unfold wX12_opening_13
    refine ⟨(inRof ⟨by omega, by omega⟩), ?_⟩
    rw [if_neg (by omega)]
    have e : j = 24 := by omega
    subst e
    exact ⟨25, l_oout h hS 24 0 M rfl hB (fun a ha => by omega) hk⟩
  | succ n ih =>
    intro j M hj hB hk
    unfold wX12_opening_13
    refine ⟨(inRof ⟨by omega, by omega⟩), ?_⟩
    rw [if_pos (by omega)]
    have hb := bit01 (n := S) (j := j) (by omega) (by omega)
    have st : bset (sdp B s S) (j + 1) = if sdp B s S j = true then bset (sdp B s S) j ||| 2 ^ j else bset (sdp B s S) j := rfl
    by_cases q : S.testBit j = true
    · rw [if_pos (hb.1.mpr q)]
      obtain ⟨a1, a2, a3⟩ := hS j q
      have ep : sdp B s S j = !qr B s j j := by unfold sdp; rw [q, Bool.true_and]
      refine i_quar hB h a1 a1 a3 a3 (fun x1 x2 M' hf => ?_) (fun x M' hf => ?_)
      · rw [a2] at x2
        have := ih (j + 1) M' (by omega) (by rw [hf.row]; exact hB) (fun M2 f2 => hk M2 (hf.toO.trans f2))
        rw [st, ep, x2, if_neg (by decide)] at this
        exact this
      · have x2 : qr B s j j = false := (Bool.not_eq_true _).mp (fun z => x ⟨rfl, by rw [a2]; exact z⟩)
        have b24 := bset24 (p := sdp B s S) (n := j) (by omega)
        have hp := pow24 (show j < 24 by omega)
        have := ih (j + 1) M' (by omega) (by rw [hf.row]; exact hB) (fun M2 f2 => hk M2 (hf.toO.trans f2))
        rw [st, ep, x2, if_pos (by rfl)] at this
        rw [shl1 (by omega), lorN (by omega) (by omega)]
        exact this
    · rw [if_neg (fun z => q (hb.1.mp z))]
      have := ih (j + 1) M (by omega) hB hk
      rw [st, if_neg (by unfold sdp; rw [(Bool.not_eq_true _).mp q, Bool.false_and]; decide)] at this
      exact this
theorem b_opening {kn : Int} (hB : M 103 = B) (h : BkR bb B) (hs : inR s) (hkn : inR kn) (hk : ∀ M', FrO M M' → (∀ a : Nat, a < 24 → M' 110 (a : Int) = (agn B s (cnt B s kn) a : Nat)) → kk (snd B s (cnt B s kn) : Nat) M') : Bd (wX12_opening s kn M) kk := by
  subst hB
  apply Bd.of; unfold wX12_opening
  refine b_cnt h hs hkn ⟨25, ?_⟩
  exact l_op1 h (cnt_lgs h.1 kn) (cnt_lt h.1) 24 0 M rfl rfl hk
theorem agn_bit {a l : Nat} : (agn B s S a).testBit l = true ↔ a ≠ l ∧ (snd B s S).testBit a = true ∧ (snd B s S).testBit l = true ∧ qr B s a l = true := by
  unfold agn
  rw [bset_bit]
  unfold agp
  rw [Bool.and_eq_true, Bool.and_eq_true, Bool.and_eq_true, Bool.not_eq_true', decide_eq_false_iff_not]
  constructor
  · rintro ⟨h1, ⟨h2, h3, h4⟩, h5⟩; exact ⟨h2, h3, h4, h5⟩
  · rintro ⟨h2, h3, h4, h5⟩; exact ⟨(snd_bit.mp h4).1, ⟨h2, h3, h4⟩, h5⟩
theorem agn_lt {a : Nat} : agn B s S a < 16777216 := bset24 (Nat.le_refl _)
/-- of a sound log, the sound ones that quarrel with it -/
theorem foe_agn {a : Nat} (ha : (snd B s S).testBit a = true) : foe B s S a &&& snd B s S = agn B s S a := by
  apply Nat.eq_of_testBit_eq
  intro l
  rw [Bool.eq_iff_iff, Nat.testBit_and, Bool.and_eq_true, foe_bit, agn_bit]
  have sa := snd_bit.mp ha
  constructor
  · rintro ⟨⟨h1, h2, h3, h4⟩, h5⟩
    exact ⟨fun e => by subst e; exact sa.2.2 h4, ha, h5, h4⟩
  · rintro ⟨h1, h2, h3, h4⟩
    have sl := snd_bit.mp h3
    exact ⟨⟨sl.1, sa.2.1, sl.2.1, h4⟩, h3⟩
end QOps
