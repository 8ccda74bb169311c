/-! ===== frames; curves of a set of logs ===== -/
def scr : List Nat := [72, 73, 74, 75, 76, 77, 78, 79, 80, 81, 82, 83, 84, 85, 91, 92, 93, 94, 95, 96, 97, 106, 107, 108, 109, 110, 112, 113, 115, 116, 117, 118, 119, 120, 121, 123]
def scs (i : Int) : Prop := i = 8 ∨ i = 9
theorem ft_scr {c : Nat} {i : Int} (h : ftb c i = true) : scr.contains c = false := by
  have h1 : ∀ c ∈ ftC, scr.contains c = false := by decide
  have h2 : ∀ p ∈ ftS, scr.contains p.1 = false := by decide
  unfold ftb at h
  rw [Bool.or_eq_true] at h
  rcases h with h | h
  · exact h1 c (List.contains_iff_mem.mp h)
  · exact h2 (c, i) (List.contains_iff_mem.mp h)
theorem Inv.fr {M M' : Mm} (hI : Inv M) (h : ∀ c i, scr.contains c = false → (c = 102 → i ≠ 8 ∧ i ≠ 9) → M' c i = M c i) : Inv M' := by
  refine Inv.same (fun c i hf => h c i (ft_scr hf) (fun e => ?_)) hI
  subst e
  refine ⟨fun z => ?_, fun z => ?_⟩
  · subst z; revert hf; decide
  · subst z; revert hf; decide
theorem Inv.frM {M M' : Mm} (hI : Inv M) (h : FrM M M') : Inv M' := by
  refine hI.fr (fun c i h1 h2 => ?_)
  by_cases e : c = 102
  · subst e; exact h.2 i (h2 rfl).1 (h2 rfl).2
  · rw [h.1 c e (by rintro rfl; revert h1; decide) (by rintro rfl; revert h1; decide) (by rintro rfl; revert h1; decide) (by rintro rfl; revert h1; decide)]
theorem Inv.frX {M M' : Mm} (hI : Inv M) (h : ∀ c : Nat, c < 72 ∨ 85 < c → M' c = M c) : Inv M' := by
  refine hI.fr (fun c i h1 h2 => ?_)
  by_cases e : c < 72 ∨ 85 < c
  · rw [h c e]
  · have : ∀ c : Nat, c < 86 → 72 ≤ c → scr.contains c = true := by decide
    rw [this c (by omega) (by omega)] at h1
    exact absurd h1 (by decide)
def endV (B : Int → Int) (s : Int) (S d : Nat) (w : Int) : Int := if w = 0 then sLo B s S d else sHi B s S d
section Curves
variable {b : Mm} {B : Int → Int} {s : Int} {S T : Nat}
theorem aloR_le {d z : Int} : ∀ n : Nat, aloR B S d n ≤ z ↔ 0 ≤ z ∧ ∀ l : Nat, l < n → S.testBit l = true → B (504 + 9 * (l : Int)) = d → rd B (l : Int) 0 ≤ z
  | 0 => ⟨fun h => ⟨h, fun l hl => by omega⟩, fun h => h.1⟩
  | n + 1 => by
    have ih := aloR_le (d := d) (z := z) n
    unfold aloR
    by_cases c : S.testBit n = true ∧ B (504 + 9 * (n : Int)) = d
    · rw [if_pos c]
      constructor
      · intro h
        have h1 := ih.mp (by omega)
        refine ⟨h1.1, fun l hl h2 h3 => ?_⟩
        by_cases q : l = n
        · subst q; omega
        · exact h1.2 l (by omega) h2 h3
      · intro h
        have h1 := ih.mpr ⟨h.1, fun l hl => h.2 l (by omega)⟩
        have h2 := h.2 n (by omega) c.1 c.2
        omega
    · rw [if_neg c, ih]
      constructor
      · intro h
        refine ⟨h.1, fun l hl h2 h3 => ?_⟩
        by_cases q : l = n
        · subst q; exact absurd ⟨h2, h3⟩ c
        · exact h.2 l (by omega) h2 h3
      · intro h
        exact ⟨h.1, fun l hl => h.2 l (by omega)⟩
theorem ahiR_le {d z c : Int} : ∀ n : Nat, z ≤ ahiR B c S d n ↔ z ≤ c ∧ ∀ l : Nat, l < n → S.testBit l = true → B (504 + 9 * (l : Int)) = d → z ≤ rd B (l : Int) 1
  | 0 => ⟨fun h => ⟨h, fun l hl => by omega⟩, fun h => h.1⟩
  | n + 1 => by
    have ih := ahiR_le (d := d) (z := z) (c := c) n
    unfold ahiR
    by_cases q : S.testBit n = true ∧ B (504 + 9 * (n : Int)) = d
    · rw [if_pos q]
      constructor
      · intro h
        have h1 := ih.mp (by omega)
        refine ⟨h1.1, fun l hl h2 h3 => ?_⟩
        by_cases q : l = n
        · subst q; omega
        · exact h1.2 l (by omega) h2 h3
      · intro h
        have h1 := ih.mpr ⟨h.1, fun l hl => h.2 l (by omega)⟩
        have h2 := h.2 n (by omega) q.1 q.2
        omega
    · rw [if_neg q, ih]
      constructor
      · intro h
        refine ⟨h.1, fun l hl h2 h3 => ?_⟩
        by_cases q' : l = n
        · subst q'; exact absurd ⟨h2, h3⟩ q
        · exact h.2 l (by omega) h2 h3
      · intro h
        exact ⟨h.1, fun l hl => h.2 l (by omega)⟩
/-- a curve by laws and cleanings; a log met -/
def Cv (B : Int → Int) (s : Int) (c : Nat → Int) : Prop := (∀ d : Nat, d < 120 → 0 ≤ c d ∧ c d ≤ capD B s (d : Int)) ∧ ∀ d : Nat, d + 1 < 120 → cutD B s ((d : Int) + 1) = 0 → byT B s (d : Int) 0 ≤ c (d + 1) - c d ∧ c (d + 1) - c d ≤ byT B s (d : Int) 1
def met (B : Int → Int) (c : Nat → Int) (l : Nat) : Prop := rd B (l : Int) 0 ≤ c (B (504 + 9 * (l : Int))).toNat ∧ c (B (504 + 9 * (l : Int))).toNat ≤ rd B (l : Int) 1
theorem crv_iff (h : BkR b B) (hS : Lgs B s S) {c : Nat → Int} : Crv (alo B S) (ahi B s S) (Lw B s) (Hw B s) (Cuts B s) c ↔ Cv B s c ∧ ∀ l : Nat, S.testBit l = true → met B c l := by
  constructor
  · intro hc
    refine ⟨⟨fun d hd => ?_, fun d hd q => hc.2 d hd q⟩, fun l hl => ?_⟩
    · have h1 := (aloR_le (B := B) (S := S) (d := (d : Int)) (z := c d) (B 724).toNat).mp (hc.1 d hd).1
      have h2 := (ahiR_le (B := B) (S := S) (d := (d : Int)) (z := c d) (c := capD B s (d : Int)) (B 724).toNat).mp (hc.1 d hd).2
      exact ⟨h1.1, h2.1⟩
    · have h0 := (hS l hl).1
      obtain ⟨-, -, r2, -⟩ := h.2.2.2.2.2.2.1 (l : Int) (by omega) h0
      have e : B (504 + 9 * (l : Int)) = ((B (504 + 9 * (l : Int))).toNat : Int) := by omega
      have hd : (B (504 + 9 * (l : Int))).toNat < 120 := by omega
      have h1 := (aloR_le (B := B) (S := S) (d := ((B (504 + 9 * (l : Int))).toNat : Int)) (z := c (B (504 + 9 * (l : Int))).toNat) (B 724).toNat).mp (hc.1 _ hd).1
      have h2 := (ahiR_le (B := B) (S := S) (d := ((B (504 + 9 * (l : Int))).toNat : Int)) (z := c (B (504 + 9 * (l : Int))).toNat) (c := capD B s ((B (504 + 9 * (l : Int))).toNat : Int)) (B 724).toNat).mp (hc.1 _ hd).2
      exact ⟨h1.2 l (by omega) hl e, h2.2 l (by omega) hl e⟩
  · rintro ⟨h1, h2⟩
    refine ⟨fun d hd => ⟨?_, ?_⟩, fun d hd q => h1.2 d hd q⟩
    · refine (aloR_le _).mpr ⟨(h1.1 d hd).1, fun l hl q1 q2 => ?_⟩
      have := (h2 l q1).1
      rw [q2] at this
      exact this
    · refine (ahiR_le _).mpr ⟨(h1.1 d hd).2, fun l hl q1 q2 => ?_⟩
      have := (h2 l q1).2
      rw [q2] at this
      exact this
theorem sOk_ex (h : BkR b B) (hS : Lgs B s S) : sOk B s S ↔ ∃ c, Cv B s c ∧ ∀ l : Nat, S.testBit l = true → met B c l := by
  constructor
  · intro ho
    obtain ⟨c, hc, -⟩ := crv_ex (LH h) ho (d := 0) (by omega) (z := sLo B s S 0) ⟨Int.le_refl _, (sOk_iff h).mp ho 0 (by omega)⟩
    exact ⟨c, (crv_iff h hS).mp hc⟩
  · rintro ⟨c, hc⟩
    exact crv_ok ((crv_iff h hS).mpr hc)
theorem sOk_sub (h : BkR b B) (hS : Lgs B s S) (hT : ∀ l : Nat, T.testBit l = true → S.testBit l = true) (ho : sOk B s S) : sOk B s T := by
  obtain ⟨c, h1, h2⟩ := (sOk_ex h hS).mp ho
  exact (sOk_ex h (fun l hl => hS l (hT l hl))).mpr ⟨c, h1, fun l hl => h2 l (hT l hl)⟩
theorem pow_bit {i l : Nat} : (2 ^ i).testBit l = true ↔ i = l := by rw [Nat.testBit_two_pow, decide_eq_true_eq]
theorem Lgs.one (hS : Lgs B s S) {i : Nat} (hi : S.testBit i = true) : Lgs B s (2 ^ i) := fun l hl => by
  rw [pow_bit] at hl; subst hl; exact hS i hi
theorem Lgs.zero : Lgs B s 0 := fun l hl => by rw [Nat.zero_testBit] at hl; exact absurd hl (by decide)
theorem endV_range (h : BkR b B) (hS : Lgs B s S) {d : Nat} (hd : d < 120) {w : Int} : -25000 ≤ endV B s S d w ∧ endV B s S d w ≤ 25000 := by
  have r1 := sLo_range h hS d hd
  have r2 := sHi_range h hS d hd
  unfold endV
  split <;> omega
theorem endV_ok (h : BkR b B) (hS : Lgs B s S) (ho : sOk B s S) {d : Nat} (hd : d < 120) {w : Int} : 0 ≤ endV B s S d w ∧ endV B s S d w ≤ 1000 := by
  have r1 := sOk_range h hS ho d hd
  unfold endV
  split <;> omega
end Curves
section Known
variable {M : Mm} {A C : Mm → Prop} {k : Int → Mm → Prop} {a b c d kn : Int} {B : Int → Int}
/-- the class, bound as known -/
theorem i_bak (h : BkR M B) (ha : inR a) (hkn : inR kn) (h0 : ¬ ((0 ≤ a ∧ a < B 721) ∧ (0 ≤ kn ∧ kn ≤ 119) ∧ sOk B a (cnt B a kn)) → ∀ M', (∀ c : Nat, c < 72 ∨ 82 < c → M' c = M c) → A M') (h1 : (0 ≤ a ∧ a < B 721) → (0 ≤ kn ∧ kn ≤ 119) → sOk B a (cnt B a kn) → ∀ M', (∀ c : Nat, c < 72 ∨ 82 < c → M' c = M c) → BkR M' B → Nt M' B a → (∀ d : Nat, d < 120 → M' 81 (d : Int) = sLo B a (cnt B a kn) d ∧ M' 82 (d : Int) = sHi B a (cnt B a kn) d) → C M') : Bd (wX11_bindAsKnown a kn M) (fun r M => inR r ∧ (if r = 0 then A M else C M)) := by
  have n0 := h.1.1
  apply Bd.of; unfold wX11_bindAsKnown
  refine i_isShip ha (by omega) (fun c1 => ?_) (fun c1 => tI0 (h0 (fun z => c1 (by omega)) M (fun _ _ => rfl)))
  refine i_isDay hkn (fun c2 => ?_) (fun c2 => tI0 (h0 (fun z => c2 (by omega)) M (fun _ _ => rfl)))
  refine b_load h (by omega) (fun M' k1 k2 k3 k4 => ?_)
  refine b_cx k3 k4 hkn ?_
  refine b_bind k3 k4 (cnt_lt h.1) (cnt_lgs h.1 kn) (fun M2 e1 e2 => ?_)
  have hf : ∀ c : Nat, c < 72 ∨ 82 < c → M2 c = M c := fun c hc => by rw [e1 c (by omega) (by omega), k1 c (by omega)]
  exact ⟨fun q => ⟨Or.inr rfl, tI1 (h1 (by omega) c2 q M2 hf (e1.book k3) (e1.net k4) e2)⟩, fun q => ⟨Or.inl rfl, tI0 (h0 (fun z => q z.2.2) M2 hf)⟩⟩
theorem i_stretch (ha : inR a) (hb : inR b) (h1 : 0 ≤ a → a ≤ b → b ≤ 119 → C M) (h0 : ¬ (0 ≤ a ∧ a ≤ b ∧ b ≤ 119) → A M) : Bd (wX11_isStretch a b M) (fun r M => inR r ∧ (if r = 0 then A M else C M)) := by
  apply Bd.of; unfold wX11_isStretch
  refine i_isDay ha (fun c1 => ?_) (fun c1 => tI0 (h0 (by omega)))
  refine i_isDay hb (fun c2 => ?_) (fun c2 => tI0 (h0 (by omega)))
  refine ⟨ha, hb, ?_⟩
  by_cases q : a ≤ b
  · rw [if_pos q]; exact tI1 (h1 (by omega) q (by omega))
  · rw [if_neg q]; exact tI0 (h0 (by omega))
theorem i_asked (ha : inR a) (hb : inR b) (hc : inR c) (hs : 0 ≤ M 103 721 ∧ M 103 721 ≤ 3) (h1 : (0 ≤ a ∧ a < M 103 721) → (0 ≤ b ∧ b ≤ 119) → (0 ≤ c ∧ c ≤ 119) → C M) (h0 : ¬ ((0 ≤ a ∧ a < M 103 721) ∧ (0 ≤ b ∧ b ≤ 119) ∧ (0 ≤ c ∧ c ≤ 119)) → A M) : Bd (wX12_isAsked a b c M) (fun r M => inR r ∧ (if r = 0 then A M else C M)) := by
  apply Bd.of; unfold wX12_isAsked
  refine i_mShip ha hs (fun c1 => ?_) (fun c1 => tI0 (h0 (by omega)))
  refine i_mDay hb (fun c2 => ?_) (fun c2 => tI0 (h0 (by omega)))
  refine i_mDay hc (fun c3 => ?_) (fun c3 => tI0 (h0 (by omega)))
  exact tI1 (h1 c1 c2 c3)
/-- the model, bound by a set -/
theorem i_spans {S : Nat} {bb : Mm} (hB : M 103 = B) (h : BkR bb B) (hs : inR a) (hS : Lgs B a S) (hSn : S < 16777216) (h1 : sOk B a S → ∀ M', FrM M M' → (∀ d : Nat, d < 120 → M' 106 (d : Int) = sLo B a S d ∧ M' 107 (d : Int) = sHi B a S d) → C M') (h0 : ¬ sOk B a S → ∀ M', FrM M M' → A M') : Bd (wX12_spans a (S : Int) M) (fun r M => inR r ∧ (if r = 0 then A M else C M)) :=
  b_spans hB h hs hS hSn (fun M' hf => ⟨fun q e => tI1 (h1 q M' hf e), fun q => tI0 (h0 q M' hf)⟩)
theorem b_xend {S D : Nat} {w : Int} (hd : D < 120) (hw : inR w) (he : ∀ d : Nat, d < 120 → M 81 (d : Int) = sLo B a S d ∧ M 82 (d : Int) = sHi B a S d) (hk : k (endV B a S D w) M) : Bd (wX6_endOf (D : Int) w M) k := by
  apply Bd.of; unfold wX6_endOf
  unfold endV at hk
  have := he D hd
  refine ⟨hw, ?_⟩
  by_cases q : w = 0
  · rw [if_pos q]; rw [if_pos q] at hk; rw [this.1]; exact ⟨⟨by omega, by omega⟩, hk⟩
  · rw [if_neg q]; rw [if_neg q] at hk; rw [this.2]; exact ⟨⟨by omega, by omega⟩, hk⟩
theorem b_mend {S D : Nat} {w : Int} (hd : D < 120) (hw : inR w) (he : ∀ d : Nat, d < 120 → M 106 (d : Int) = sLo B a S d ∧ M 107 (d : Int) = sHi B a S d) (hk : k (endV B a S D w) M) : Bd (wX12_endOf (D : Int) w M) k := by
  apply Bd.of; unfold wX12_endOf
  unfold endV at hk
  have := he D hd
  refine ⟨hw, ?_⟩
  by_cases q : w = 0
  · rw [if_pos q]; rw [if_pos q] at hk; rw [this.1]; exact ⟨⟨by omega, by omega⟩, hk⟩
  · rw [if_neg q]; rw [if_neg q] at hk; rw [this.2]; exact ⟨⟨by omega, by omega⟩, hk⟩
end Known
section Span
variable {M : Mm} {k : Mm → Prop} {kk : Int → Mm → Prop} {a b c d e kn w : Int} {bb : Mm} {B : Int → Int}
theorem m_span (hB : M 103 = B) (h : BkR bb B) (ha : inR a) (hb : inR b) (hc : inR c) (hd : inR d) (h1 : (0 ≤ a ∧ a < B 721) → (0 ≤ b ∧ b ≤ 119) → (0 ≤ c ∧ c ≤ 119) → (0 ≤ d ∧ d ≤ 1) → sOk B a (cnt B a c) → ∀ M', FrM M M' → kk (endV B a (cnt B a c) b.toNat d) M') (h0 : ¬ ((0 ≤ a ∧ a < B 721) ∧ (0 ≤ b ∧ b ≤ 119) ∧ (0 ≤ c ∧ c ≤ 119) ∧ (0 ≤ d ∧ d ≤ 1) ∧ sOk B a (cnt B a c)) → ∀ M', FrM M M' → kk (-1) M') : Bd (wX12_span a b c d M) kk := by
  have n0 := h.1.1
  subst hB
  apply Bd.of; unfold wX12_span
  refine i_asked ha hb hc (by omega) (fun c1 c2 c3 => ?_) (fun q => h0 (fun z => q ⟨z.1, z.2.1, z.2.2.1⟩) _ FrM.refl)
  refine i_in hd inR0 inR1 (fun c4 => ?_) (fun q => h0 (fun z => q z.2.2.2.1) _ FrM.refl)
  refine b_cnt h ha hc ?_
  refine i_spans rfl h ha (cnt_lgs h.1 c) (cnt_lt h.1) (fun q M' hf he => ?_) (fun q M' hf => h0 (fun z => q z.2.2.2.2) M' hf)
  have eb : b = (b.toNat : Int) := by omega
  rw [eb]
  exact b_mend (by omega) hd he (h1 c1 c2 c3 c4 q M' hf)
theorem op_span (ha : inR a) (hb : inR b) (hc : inR c) (hd : inR d) (hI : Inv M) (hk : ∀ M, Inv M → k M) : Bd (wX11_span a b c d M) (fun r1 M1 => Bd (wX12_span a b c d M1) (fun r2 M2 => inR r1 ∧ inR r2 ∧ r1 = r2 ∧ k M2)) := by
  have hB := hI.1
  have n0 := hB.1.1
  have fin : ¬ ((0 ≤ a ∧ a < M 103 721) ∧ (0 ≤ b ∧ b ≤ 119) ∧ (0 ≤ c ∧ c ≤ 119) ∧ (0 ≤ d ∧ d ≤ 1) ∧ sOk (M 103) a (cnt (M 103) a c)) → ∀ M', Inv M' → M' 103 = M 103 → Bd (wX12_span a b c d M') (fun r2 M2 => inR (-1) ∧ inR r2 ∧ -1 = r2 ∧ k M2) := fun q M' hI' e => m_span e hB ha hb hc hd (fun q1 q2 q3 q4 q5 => absurd ⟨q1, q2, q3, q4, q5⟩ q) (fun _ M2 hf => ⟨(inRl (by decide)), (inRl (by decide)), rfl, hk _ (hI'.frM hf)⟩)
  apply Bd.of; unfold wX11_span
  refine i_isDay hb (fun c2 => ?_) (fun q => fin (fun z => q z.2.1) M hI rfl)
  refine i_within hd inR0 inR1 (fun c4 => ?_) (fun q => fin (fun z => q z.2.2.2.1) M hI rfl)
  refine i_bak hB ha hc (fun q M' hf => fin (fun z => q ⟨z.1, z.2.2.1, z.2.2.2.2⟩) M' (hI.frX (fun c hc => hf c (by omega))) (hf 103 (by omega))) (fun c1 c3 q M' hf hb' hn he => ?_)
  have eb : b = (b.toNat : Int) := by omega
  have hr := endV_ok hB (cnt_lgs hB.1 c) q (d := b.toNat) (by omega) (w := d)
  have hg : Bd (wX6_endOf (b.toNat : Int) d M') (fun r1 M1 => Bd (wX12_span a b c d M1) (fun r2 M2 => inR r1 ∧ inR r2 ∧ r1 = r2 ∧ k M2)) := by
    refine b_xend (by omega) hd he ?_
    refine m_span (hf 103 (by omega)) hB ha hb hc hd (fun _ _ _ _ _ M2 hf2 => ⟨(inRof ⟨by omega, by omega⟩), (inRof ⟨by omega, by omega⟩), rfl, hk _ ((hI.frX (fun c hc => hf c (by omega))).frM hf2)⟩) (fun z => absurd ⟨c1, c2, c3, c4, q⟩ z)
  rw [← eb] at hg
  exact hg
/-! why -/
def wyF (B : Int → Int) (s : Int) (S D : Nat) (w e : Int) (j : Nat) : Nat → Int
  | 0 => -1
  | n + 1 => if S.testBit j = true ∧ endV B s (2 ^ j) D w = e then (j : Int) else wyF B s S D w e (j + 1) n
def wyV (B : Int → Int) (s : Int) (S D : Nat) (w : Int) : Int := if endV B s 0 D w = endV B s S D w then -1 else wyF B s S D w (endV B s S D w) 0 24
theorem wyF_range {s e : Int} {S D : Nat} : ∀ n j : Nat, -1 ≤ wyF B s S D w e j n ∧ wyF B s S D w e j n < (j : Int) + n + 1
  | 0, j => ⟨by show (-1 : Int) ≤ -1; omega, by show (-1 : Int) < _; omega⟩
  | n + 1, j => by
    have ih := wyF_range (s := s) (e := e) (S := S) (D := D) n (j + 1)
    unfold wyF
    split <;> omega
theorem pow24 {j : Nat} (h : j < 24) : 2 ^ j < 16777216 := by
  have : 2 ^ j < 2 ^ 24 := Nat.pow_lt_pow_right (by decide) h
  omega
theorem l_xwy {Q : Int → Mm → Prop} {s e : Int} {S D : Nat} (hS : Lgs B s S) (hSn : S < 16777216) (hD : D < 120) (hw : inR w) (he : inR e) : ∀ (n j : Nat) (M : Mm), j + n = 24 → BkR M B → Nt M B s → (∀ M', FrE M M' → Q (wyF B s S D w e j n) M') → wX6_makerOf_30 Q (D : Int) w (S : Int) e (n + 1) (j : Int) M := by
  intro n
  induction n with
  | zero =>
    intro j M hj h hn hk
    unfold wX6_makerOf_30
    refine ⟨(inRof ⟨by omega, by omega⟩), ?_⟩
    rw [if_neg (by omega)]
    exact hk M (fun _ _ _ => rfl)
  | succ n ih =>
    intro j M hj h hn hk
    unfold wX6_makerOf_30
    refine ⟨(inRof ⟨by omega, by omega⟩), ?_⟩
    rw [if_pos (by omega)]
    have hb := bit01 (n := S) (j := j) (by omega) (by omega)
    unfold wyF at hk
    by_cases c1 : S.testBit j = true
    · rw [if_pos (hb.1.mpr c1), shl1 (by omega)]
      refine b_bind h hn (pow24 (by omega)) (hS.one c1) (fun M' e1 e2 => ?_)
      have r := endV_range h (hS.one c1) hD (w := w)
      have key : Bd (wX6_endOf (D : Int) w M') (fun r10 M11 => inR r10 ∧ inR e ∧ (if r10 = e then Q (j : Int) M11 else wX6_makerOf_30 Q (D : Int) w (S : Int) e (n + 1) ((j : Int) + 1) M11)) := by
        refine b_xend hD hw e2 ⟨(inRof ⟨by omega, by omega⟩), he, ?_⟩
        by_cases q : endV B s (2 ^ j) D w = e
        · rw [if_pos q]
          rw [if_pos ⟨c1, q⟩] at hk
          exact hk M' e1
        · rw [if_neg q]
          rw [if_neg (fun z => q z.2)] at hk
          exact ih (j + 1) M' (by omega) (e1.book h) (e1.net hn) (fun M2 f => hk M2 (fun c q1 q2 => by rw [f c q1 q2, e1 c q1 q2]))
      exact ⟨fun _ => key, fun _ => key⟩
    · rw [if_neg (fun z => c1 (hb.1.mp z))]
      rw [if_neg (fun z => c1 z.1)] at hk
      exact ih (j + 1) M (by omega) h hn hk
theorem l_mwy {Q : Int → Mm → Prop} {s e : Int} {S D : Nat} (h : BkR bb B) (hs : inR s) (hS : Lgs B s S) (ho : sOk B s S) (hSn : S < 16777216) (hD : D < 120) (hw : inR w) (he : inR e) : ∀ (n j : Nat) (M : Mm), j + n = 24 → M 103 = B → (∀ M', FrM M M' → Q (wyF B s S D w e j n) M') → wX12_why_77 Q s (D : Int) w (S : Int) e (n + 1) (j : Int) M := by
  intro n
  induction n with
  | zero =>
    intro j M hj hB hk
    unfold wX12_why_77
    refine ⟨(inRof ⟨by omega, by omega⟩), ?_⟩
    rw [if_neg (by omega)]
    exact hk M FrM.refl
  | succ n ih =>
    intro j M hj hB hk
    unfold wX12_why_77
    refine ⟨(inRof ⟨by omega, by omega⟩), ?_⟩
    rw [if_pos (by omega)]
    have hb := bit01 (n := S) (j := j) (by omega) (by omega)
    unfold wyF at hk
    by_cases c1 : S.testBit j = true
    · rw [if_pos (hb.1.mpr c1), shl1 (by omega)]
      have o1 : sOk B s (2 ^ j) := sOk_sub h hS (fun l hl => by rw [pow_bit] at hl; subst hl; exact c1) ho
      refine i_spans hB h hs (hS.one c1) (pow24 (by omega)) (fun _ M' e1 e2 => ?_) (fun q => absurd o1 q)
      have r := endV_range h (hS.one c1) hD (w := w)
      refine b_mend hD hw e2 ⟨(inRof ⟨by omega, by omega⟩), he, ?_⟩
      by_cases q : endV B s (2 ^ j) D w = e
      · rw [if_pos q]
        rw [if_pos ⟨c1, q⟩] at hk
        exact hk M' e1
      · rw [if_neg q]
        rw [if_neg (fun z => q z.2)] at hk
        exact ih (j + 1) M' (by omega) (by rw [e1.row]; exact hB) (fun M2 f => hk M2 (e1.trans f))
    · rw [if_neg (fun z => c1 (hb.1.mp z))]
      rw [if_neg (fun z => c1 z.1)] at hk
      exact ih (j + 1) M (by omega) hB hk
theorem m_why (hB : M 103 = B) (h : BkR bb B) (ha : inR a) (hb : inR b) (hc : inR c) (hd : inR d) (h1 : (0 ≤ a ∧ a < B 721) → (0 ≤ b ∧ b ≤ 119) → (0 ≤ c ∧ c ≤ 119) → (0 ≤ d ∧ d ≤ 1) → sOk B a (cnt B a c) → ∀ M', FrM M M' → kk (wyV B a (cnt B a c) b.toNat d) M') (h0 : ¬ ((0 ≤ a ∧ a < B 721) ∧ (0 ≤ b ∧ b ≤ 119) ∧ (0 ≤ c ∧ c ≤ 119) ∧ (0 ≤ d ∧ d ≤ 1) ∧ sOk B a (cnt B a c)) → ∀ M', FrM M M' → kk (-1) M') : Bd (wX12_why a b c d M) kk := by
  have n0 := h.1.1
  subst hB
  apply Bd.of; unfold wX12_why
  refine i_asked ha hb hc (by omega) (fun c1 c2 c3 => ?_) (fun q => h0 (fun z => q ⟨z.1, z.2.1, z.2.2.1⟩) _ FrM.refl)
  refine i_in hd inR0 inR1 (fun c4 => ?_) (fun q => h0 (fun z => q z.2.2.2.1) _ FrM.refl)
  refine b_cnt h ha hc ?_
  have hS := cnt_lgs (s := a) h.1 c
  have hSn := cnt_lt (s := a) (kn := c) h.1
  refine i_spans rfl h ha hS hSn (fun q M1 hf he => ?_) (fun q M' hf => h0 (fun z => q z.2.2.2.2) M' hf)
  obtain ⟨D, eb⟩ : ∃ D : Nat, b = (D : Int) := ⟨b.toNat, by omega⟩
  subst eb
  have h1 := h1 c1 c2 c3 c4 q
  rw [Int.toNat_natCast] at h1
  have hD : D < 120 := by omega
  have r1 := endV_range h hS hD (w := d)
  have r0 := endV_range h (Lgs.zero (B := M 103) (s := a)) hD (w := d)
  refine b_mend hD hd he ?_
  have o0 : sOk (M 103) a 0 := sOk_sub h hS (fun l hl => by rw [Nat.zero_testBit] at hl; exact absurd hl (by decide)) q
  refine i_spans (S := 0) hf.row h ha Lgs.zero (by decide) (fun _ M2 hf2 he2 => ?_) (fun z => absurd o0 z)
  refine b_mend hD hd he2 ⟨(inRof ⟨by omega, by omega⟩), (inRof ⟨by omega, by omega⟩), ?_⟩
  unfold wyV at h1
  by_cases q2 : endV (M 103) a 0 D d = endV (M 103) a (cnt (M 103) a c) D d
  · rw [if_pos q2]
    rw [if_pos q2] at h1
    exact h1 M2 (hf.trans hf2)
  · rw [if_neg q2]
    rw [if_neg q2] at h1
    exact ⟨25, l_mwy h ha hS q hSn hD hd (inRof ⟨by omega, by omega⟩) 24 0 M2 rfl (by rw [hf2.row, hf.row]) (fun M3 hf3 => h1 M3 ((hf.trans hf2).trans hf3))⟩
theorem op_why (ha : inR a) (hb : inR b) (hc : inR c) (hd : inR d) (hI : Inv M) (hk : ∀ M, Inv M → k M) : Bd (wX11_why a b c d M) (fun r1 M1 => Bd (wX12_why a b c d M1) (fun r2 M2 => inR r1 ∧ inR r2 ∧ r1 = r2 ∧ k M2)) := by
  have hB := hI.1
  have n0 := hB.1.1
  have fin : ¬ ((0 ≤ a ∧ a < M 103 721) ∧ (0 ≤ b ∧ b ≤ 119) ∧ (0 ≤ c ∧ c ≤ 119) ∧ (0 ≤ d ∧ d ≤ 1) ∧ sOk (M 103) a (cnt (M 103) a c)) → ∀ M', Inv M' → M' 103 = M 103 → Bd (wX12_why a b c d M') (fun r2 M2 => inR (-1) ∧ inR r2 ∧ -1 = r2 ∧ k M2) := fun q M' hI' e => m_why e hB ha hb hc hd (fun q1 q2 q3 q4 q5 => absurd ⟨q1, q2, q3, q4, q5⟩ q) (fun _ M2 hf => ⟨(inRl (by decide)), (inRl (by decide)), rfl, hk _ (hI'.frM hf)⟩)
  apply Bd.of; unfold wX11_why
  refine i_isDay hb (fun c2 => ?_) (fun q => fin (fun z => q z.2.1) M hI rfl)
  refine i_within hd inR0 inR1 (fun c4 => ?_) (fun q => fin (fun z => q z.2.2.2.1) M hI rfl)
  refine i_bak hB ha hc (fun q M' hf => fin (fun z => q ⟨z.1, z.2.2.1, z.2.2.2.2⟩) M' (hI.frX (fun c hc => hf c (by omega))) (hf 103 (by omega))) (fun c1 c3 q M' hf hb' hn he => ?_)
  have hS := cnt_lgs (s := a) hB.1 c
  have hSn := cnt_lt (s := a) (kn := c) hB.1
  obtain ⟨D, eb⟩ : ∃ D : Nat, b = (D : Int) := ⟨b.toNat, by omega⟩
  subst eb
  have hD : D < 120 := by omega
  have r1 := endV_range hB hS hD (w := d)
  have r0 := endV_range hB (Lgs.zero (B := M 103) (s := a)) hD (w := d)
  have go : ∀ M2 : Mm, FrE M' M2 → Bd (wX12_why a (D : Int) c d M2) (fun r2 M2 => inR (wyV (M 103) a (cnt (M 103) a c) D d) ∧ inR r2 ∧ wyV (M 103) a (cnt (M 103) a c) D d = r2 ∧ k M2) := by
    intro M2 f2
    have hr : inR (wyV (M 103) a (cnt (M 103) a c) D d) := by
      unfold wyV
      have := wyF_range (B := M 103) (s := a) (e := endV (M 103) a (cnt (M 103) a c) D d) (S := cnt (M 103) a c) (D := D) (w := d) 24 0
      split <;> exact (inRof ⟨by omega, by omega⟩)
    have hI2 : Inv M2 := hI.frX (fun c hc => by rw [f2 c (by omega) (by omega), hf c (by omega)])
    refine m_why (by rw [f2 103 (by decide) (by decide), hf 103 (by omega)]) hB ha hb hc hd (fun _ _ _ _ _ M3 hf3 => ?_) (fun z => absurd ⟨c1, c2, c3, c4, q⟩ z)
    rw [Int.toNat_natCast]
    exact ⟨hr, hr, rfl, hk _ (hI2.frM hf3)⟩
  refine b_cx hb' hn hc ?_
  apply Bd.of; unfold wX6_makerOf
  refine b_xend hD hd he ?_
  refine b_bind (S := 0) hb' hn (by decide) Lgs.zero (fun M2 f2 e2 => ?_)
  have key : Bd (wX6_endOf (D : Int) d M2) (fun r11 M12 => inR r11 ∧ inR (endV (M 103) a (cnt (M 103) a c) D d) ∧ (if r11 = endV (M 103) a (cnt (M 103) a c) D d then Bd (wX12_why a (D : Int) c d M12) (fun r2 M2 => inR (-1) ∧ inR r2 ∧ -1 = r2 ∧ k M2) else ∃ n, wX6_makerOf_30 (fun r1 M1 => Bd (wX12_why a (D : Int) c d M1) (fun r2 M2 => inR r1 ∧ inR r2 ∧ r1 = r2 ∧ k M2)) (D : Int) d (cnt (M 103) a c : Nat) (endV (M 103) a (cnt (M 103) a c) D d) n 0 M12)) := by
    refine b_xend hD hd e2 ⟨(inRof ⟨by omega, by omega⟩), (inRof ⟨by omega, by omega⟩), ?_⟩
    by_cases q2 : endV (M 103) a 0 D d = endV (M 103) a (cnt (M 103) a c) D d
    · rw [if_pos q2]
      have := go M2 f2
      unfold wyV at this
      rw [if_pos q2] at this
      exact this
    · rw [if_neg q2]
      refine ⟨25, l_xwy hS hSn hD hd (inRof ⟨by omega, by omega⟩) 24 0 M2 rfl (f2.book hb') (f2.net hn) (fun M3 f3 => ?_)⟩
      have := go M3 (fun c q1 q2 => by rw [f3 c q1 q2, f2 c q1 q2])
      unfold wyV at this
      rw [if_neg q2] at this
      exact this
  exact ⟨fun _ => key, fun _ => key⟩
end Span
