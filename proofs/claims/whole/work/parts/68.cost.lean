/-! ===== lost, widest ===== -/
def lsR (B : Int → Int) (s : Int) (g : Nat → Int) (fr : Nat) : Nat → Int
  | 0 => 0
  | n + 1 => lsR B s g fr n + skn B s ((fr + n : Nat) : Int) (g (fr + n))
def wdR (g : Nat → Int) (fr : Nat) : Nat → Nat
  | 0 => fr
  | n + 1 => if g (fr + n + 1) ≤ g (wdR g fr n) then wdR g fr n else fr + n + 1
theorem wdR_range (g : Nat → Int) (fr : Nat) : ∀ n : Nat, fr ≤ wdR g fr n ∧ wdR g fr n ≤ fr + n
  | 0 => ⟨Nat.le_refl _, Nat.le_refl _⟩
  | n + 1 => by
    have ih := wdR_range g fr n
    unfold wdR
    split <;> omega
theorem skn_range {b : Mm} {B : Int → Int} {s d z : Int} (h : BkR b B) (hs : 0 ≤ s ∧ s < B 721) (hz : 0 ≤ z ∧ z ≤ 1000) : 0 ≤ skn B s d z ∧ skn B s d z ≤ 9000 := by
  have hp := (prt_range (d := d) h hs hz).2.2.2
  unfold skn
  omega
theorem lsR_range {b : Mm} {B : Int → Int} {s : Int} {g : Nat → Int} {fr : Nat} (h : BkR b B) (hs : 0 ≤ s ∧ s < B 721) : ∀ n : Nat, fr + n ≤ 120 → (∀ d, d < 120 → 0 ≤ g d ∧ g d ≤ 1000) → 0 ≤ lsR B s g fr n ∧ lsR B s g fr n ≤ 9000 * (n : Int)
  | 0, _, _ => ⟨by show (0 : Int) ≤ 0; omega, by show (0 : Int) ≤ 0; omega⟩
  | n + 1, hn, hg => by
    have ih := lsR_range (fr := fr) h hs n (by omega) hg
    have := skn_range (d := ((fr + n : Nat) : Int)) h hs (hg (fr + n) (by omega))
    unfold lsR
    omega
section Lost
variable {M : Mm} {k : Mm → Prop} {kk : Int → Mm → Prop} {a b c d e s w z : Int} {bb : Mm} {B : Int → Int}
theorem b_xskin (h : BkR M B) (hs : 0 ≤ s ∧ s < B 721) (hn : NtA M B s) (hd : 0 ≤ d ∧ d < 120) (hz : 0 ≤ z ∧ z ≤ 1000) (hk : kk (skn B s d z) M) : Bd (wX6_skinFuel d z M) kk := by
  apply Bd.of; unfold wX6_skinFuel
  have hp := (prt_range (d := d) h hs hz).2.2.2
  refine b_por h hs hn hd (by omega) ⟨(inRof ⟨by omega, by omega⟩), ?_⟩
  rw [Int.tdiv_eq_ediv_of_nonneg (by omega)]
  exact hk
theorem l_xls {Q : Int → Mm → Prop} {S F N : Nat} (h : BkR M B) (hs : 0 ≤ s ∧ s < B 721) (hn : NtA M B s) (hN : F + N ≤ 120) (hw : inR w) (he : ∀ d : Nat, d < 120 → M 81 (d : Int) = sLo B s S d ∧ M 82 (d : Int) = sHi B s S d) (hg : ∀ d, d < 120 → 0 ≤ endV B s S d w ∧ endV B s S d w ≤ 1000) (hk : Q (lsR B s (fun d => endV B s S d w) F N) M) : ∀ (f j : Nat), j ≤ N → N - j < f → wX11_lost_38 Q ((F : Int) + (N : Int) - 1) w f (lsR B s (fun d => endV B s S d w) F j) ((F : Int) + (j : Int)) M := by
  intro f
  induction f with
  | zero => intro j h1 h2; omega
  | succ f ih =>
    intro j h1 h2
    unfold wX11_lost_38
    refine ⟨(inRof ⟨by omega, by omega⟩), (inRof ⟨by omega, by omega⟩), ?_⟩
    by_cases q : j < N
    · rw [if_pos (by omega)]
      have ih := ih (j + 1) (by omega) (by omega)
      have r := skn_range (d := ((F + j : Nat) : Int)) h hs (hg (F + j) (by omega))
      rw [show (F : Int) + (j : Int) = ((F + j : Nat) : Int) by omega]
      refine b_xend (by omega) hw he ?_
      refine b_xskin h hs hn (by omega) (hg (F + j) (by omega)) ⟨(inRof ⟨by omega, by omega⟩), ?_⟩
      rw [show (F : Int) + ((j + 1 : Nat) : Int) = ((F + j : Nat) : Int) + 1 by omega] at ih
      exact ih
    · rw [if_neg (by omega)]
      rw [show j = N by omega]
      exact hk
theorem l_mls {Q : Int → Mm → Prop} {S F N : Nat} (h : BkR bb (M 103)) (hs : 0 ≤ s ∧ s < M 103 721) (hN : F + N ≤ 120) (hw : inR w) (he : ∀ d : Nat, d < 120 → M 106 (d : Int) = sLo (M 103) s S d ∧ M 107 (d : Int) = sHi (M 103) s S d) (hg : ∀ d, d < 120 → 0 ≤ endV (M 103) s S d w ∧ endV (M 103) s S d w ≤ 1000) (hk : Q (lsR (M 103) s (fun d => endV (M 103) s S d w) F N) M) : ∀ (f j : Nat), j ≤ N → N - j < f → wX12_lost_56 Q s ((F : Int) + (N : Int) - 1) w f (lsR (M 103) s (fun d => endV (M 103) s S d w) F j) ((F : Int) + (j : Int)) M := by
  intro f
  induction f with
  | zero => intro j h1 h2; omega
  | succ f ih =>
    intro j h1 h2
    unfold wX12_lost_56
    refine ⟨(inRof ⟨by omega, by omega⟩), (inRof ⟨by omega, by omega⟩), ?_⟩
    by_cases q : j < N
    · rw [if_pos (by omega)]
      have ih := ih (j + 1) (by omega) (by omega)
      have r := skn_range (d := ((F + j : Nat) : Int)) h hs (hg (F + j) (by omega))
      rw [show (F : Int) + (j : Int) = ((F + j : Nat) : Int) by omega]
      refine b_mend (by omega) hw he ?_
      refine b_skn h hs (inRof ⟨by omega, by omega⟩) (hg (F + j) (by omega)) ⟨(inRof ⟨by omega, by omega⟩), ?_⟩
      rw [show (F : Int) + ((j + 1 : Nat) : Int) = ((F + j : Nat) : Int) + 1 by omega] at ih
      exact ih
    · rw [if_neg (by omega)]
      rw [show j = N by omega]
      exact hk
theorem m_lost (hB : M 103 = B) (h : BkR bb B) (ha : inR a) (hb : inR b) (hc : inR c) (hd : inR d) (he : inR e) (h1 : (0 ≤ a ∧ a < B 721) → (0 ≤ b ∧ b ≤ c ∧ c ≤ 119) → (0 ≤ d ∧ d ≤ 119) → (0 ≤ e ∧ e ≤ 1) → sOk B a (cnt B a d) → ∀ M', FrM M M' → kk (lsR B a (fun x => endV B a (cnt B a d) x e) b.toNat (c - b + 1).toNat) M') (h0 : ¬ ((0 ≤ a ∧ a < B 721) ∧ (0 ≤ b ∧ b ≤ c ∧ c ≤ 119) ∧ (0 ≤ d ∧ d ≤ 119) ∧ (0 ≤ e ∧ e ≤ 1) ∧ sOk B a (cnt B a d)) → ∀ M', FrM M M' → kk (-1) M') : Bd (wX12_lost a b c d e M) kk := by
  have n0 := h.1.1
  subst hB
  apply Bd.of; unfold wX12_lost
  refine i_asked ha hb hd (by omega) (fun c1 c2 c3 => ?_) (fun q => h0 (fun z => q ⟨z.1, by omega, z.2.2.1⟩) _ FrM.refl)
  refine i_in hc hb (inRl (by decide)) (fun c4 => ?_) (fun q => h0 (fun z => q (by omega)) _ FrM.refl)
  refine i_in he inR0 inR1 (fun c5 => ?_) (fun q => h0 (fun z => q z.2.2.2.1) _ FrM.refl)
  refine b_cnt h ha hd ?_
  have hS := cnt_lgs (s := a) h.1 d
  refine i_spans rfl h ha hS (cnt_lt h.1) (fun q M' hf hh => ?_) (fun q M' hf => h0 (fun z => q z.2.2.2.2) M' hf)
  have h1 := h1 c1 (by omega) c3 c5 q M' hf
  obtain ⟨F, eb⟩ : ∃ F : Nat, b = (F : Int) := ⟨b.toNat, by omega⟩
  obtain ⟨N, ec⟩ : ∃ N : Nat, c = (F : Int) + (N : Int) - 1 := ⟨(c - b + 1).toNat, by omega⟩
  subst eb ec
  rw [Int.toNat_natCast, show ((F : Int) + (N : Int) - 1 - (F : Int) + 1).toNat = N by omega] at h1
  have := l_mls (M := M') (S := cnt (M 103) a d) (F := F) (N := N) (w := e) (Q := kk) (bb := bb) (s := a) (by rw [hf.row]; exact h) (by rw [hf.row]; exact c1) (by omega) he (by rw [hf.row]; exact hh) (by rw [hf.row]; exact fun x hx => endV_ok h hS q hx) (by rw [hf.row]; exact h1) (N + 1) 0 (by omega) (by omega)
  refine ⟨N + 1, ?_⟩
  rw [show (F : Int) + ((0 : Nat) : Int) = (F : Int) by omega] at this
  exact this
theorem op_lost (ha : inR a) (hb : inR b) (hc : inR c) (hd : inR d) (he : inR e) (hI : Inv M) (hk : ∀ M, Inv M → k M) : Bd (wX11_lost a b c d e M) (fun r1 M1 => Bd (wX12_lost a b c d e M1) (fun r2 M2 => inR64 r1 ∧ inR64 r2 ∧ r1 = r2 ∧ k M2)) := by
  have hB := hI.1
  have n0 := hB.1.1
  have m64 : inR64 (-1) := ⟨by omega, by omega⟩
  have fin : ¬ ((0 ≤ a ∧ a < M 103 721) ∧ (0 ≤ b ∧ b ≤ c ∧ c ≤ 119) ∧ (0 ≤ d ∧ d ≤ 119) ∧ (0 ≤ e ∧ e ≤ 1) ∧ sOk (M 103) a (cnt (M 103) a d)) → ∀ M', Inv M' → M' 103 = M 103 → Bd (wX12_lost a b c d e M') (fun r2 M2 => inR64 (-1) ∧ inR64 r2 ∧ -1 = r2 ∧ k M2) := fun q M' hI' ee => m_lost ee hB ha hb hc hd he (fun q1 q2 q3 q4 q5 => absurd ⟨q1, q2, q3, q4, q5⟩ q) (fun _ M2 hf => ⟨m64, m64, rfl, hk _ (hI'.frM hf)⟩)
  apply Bd.of; unfold wX11_lost
  refine i_stretch hb hc (fun s1 s2 s3 => ?_) (fun q => fin (fun z => q z.2.1) M hI rfl)
  refine i_within he inR0 inR1 (fun c4 => ?_) (fun q => fin (fun z => q z.2.2.2.1) M hI rfl)
  refine i_bak hB ha hd (fun q M' hf => fin (fun z => q ⟨z.1, z.2.2.1, z.2.2.2.2⟩) M' (hI.frX (fun c hc => hf c (by omega))) (hf 103 (by omega))) (fun c1 c3 q M' hf hb' hn hh => ?_)
  have hS := cnt_lgs (s := a) hB.1 d
  have hI' : Inv M' := hI.frX (fun c hc => hf c (by omega))
  obtain ⟨F, eb⟩ : ∃ F : Nat, b = (F : Int) := ⟨b.toNat, by omega⟩
  obtain ⟨N, ec⟩ : ∃ N : Nat, c = (F : Int) + (N : Int) - 1 := ⟨(c - b + 1).toNat, by omega⟩
  subst eb ec
  have hg : ∀ x, x < 120 → 0 ≤ endV (M 103) a (cnt (M 103) a d) x e ∧ endV (M 103) a (cnt (M 103) a d) x e ≤ 1000 := fun x hx => endV_ok hB hS q hx
  have r := lsR_range (B := M 103) (s := a) (g := fun x => endV (M 103) a (cnt (M 103) a d) x e) (fr := F) hB c1 N (by omega) hg
  have r64 : inR64 (lsR (M 103) a (fun x => endV (M 103) a (cnt (M 103) a d) x e) F N) := ⟨by omega, by omega⟩
  have := l_xls (M := M') (B := M 103) (S := cnt (M 103) a d) (F := F) (N := N) (w := e) (s := a) (Q := (fun r1 M1 => Bd (wX12_lost a (F : Int) ((F : Int) + (N : Int) - 1) d e M1) (fun r2 M2 => inR64 r1 ∧ inR64 r2 ∧ r1 = r2 ∧ k M2))) hb' c1 hn.1 (by omega) he hh hg ?_ (N + 1) 0 (by omega) (by omega)
  · refine ⟨N + 1, ?_⟩
    rw [show (F : Int) + ((0 : Nat) : Int) = (F : Int) by omega] at this
    exact this
  · refine m_lost (hf 103 (by omega)) hB ha hb hc hd he (fun _ _ _ _ _ M3 hf3 => ?_) (fun z => absurd ⟨c1, ⟨s1, s2, s3⟩, c3, c4, q⟩ z)
    rw [Int.toNat_natCast, show ((F : Int) + (N : Int) - 1 - (F : Int) + 1).toNat = N by omega]
    exact ⟨r64, r64, rfl, hk _ (hI'.frM hf3)⟩
/-! widest -/
theorem l_xwd {Q : Int → Mm → Prop} {g : Nat → Int} {F N : Nat} (hN : F + N < 120) (hg : ∀ d : Nat, d < 120 → M 82 (d : Int) - M 81 (d : Int) = g d ∧ inR (g d)) (hk : Q (wdR g F N : Nat) M) : ∀ (f j : Nat), j ≤ N → N - j < f → wX11_widest_28 Q ((F : Int) + (N : Int)) f (wdR g F j : Nat) ((F : Int) + (j : Int) + 1) M := by
  intro f
  induction f with
  | zero => intro j h1 h2; omega
  | succ f ih =>
    intro j h1 h2
    unfold wX11_widest_28
    refine ⟨(inRof ⟨by omega, by omega⟩), (inRof ⟨by omega, by omega⟩), ?_⟩
    by_cases q : j < N
    · rw [if_pos (by omega)]
      have ih := ih (j + 1) (by omega) (by omega)
      have r := wdR_range g F j
      have g1 := hg (F + j + 1) (by omega)
      have g2 := hg (wdR g F j) (by omega)
      rw [show (F : Int) + ((j + 1 : Nat) : Int) + 1 = (F : Int) + (j : Int) + 1 + 1 by omega] at ih
      rw [show (F : Int) + (j : Int) + 1 = ((F + j + 1 : Nat) : Int) by omega] at ih ⊢
      apply Bd.of; unfold wX6_widthOf
      rw [g1.1]
      refine ⟨⟨by omega, by omega⟩, ?_⟩
      apply Bd.of
      rw [g2.1]
      refine ⟨⟨by omega, by omega⟩, g1.2, g2.2, ?_⟩
      unfold wdR at ih
      by_cases q2 : g (F + j + 1) ≤ g (wdR g F j)
      · rw [if_pos q2]; rw [if_pos q2] at ih; exact ih
      · rw [if_neg q2]; rw [if_neg q2] at ih; exact ih
    · rw [if_neg (by omega)]
      rw [show j = N by omega]
      exact hk
theorem l_mwd {Q : Int → Mm → Prop} {g : Nat → Int} {F N : Nat} (hN : F + N < 120) (hg : ∀ d : Nat, d < 120 → M 107 (d : Int) - M 106 (d : Int) = g d ∧ inR (g d)) (hk : Q (wdR g F N : Nat) M) : ∀ (f j : Nat), j ≤ N → N - j < f → wX12_widest_44 Q ((F : Int) + (N : Int)) f (wdR g F j : Nat) ((F : Int) + (j : Int) + 1) M := by
  intro f
  induction f with
  | zero => intro j h1 h2; omega
  | succ f ih =>
    intro j h1 h2
    unfold wX12_widest_44
    refine ⟨(inRof ⟨by omega, by omega⟩), (inRof ⟨by omega, by omega⟩), ?_⟩
    by_cases q : j < N
    · rw [if_pos (by omega)]
      have ih := ih (j + 1) (by omega) (by omega)
      have r := wdR_range g F j
      have g1 := hg (F + j + 1) (by omega)
      have g2 := hg (wdR g F j) (by omega)
      rw [show (F : Int) + ((j + 1 : Nat) : Int) + 1 = (F : Int) + (j : Int) + 1 + 1 by omega] at ih
      rw [show (F : Int) + (j : Int) + 1 = ((F + j + 1 : Nat) : Int) by omega] at ih ⊢
      rw [g1.1, g2.1]
      refine ⟨⟨by omega, by omega⟩, ⟨by omega, by omega⟩, g1.2, g2.2, ?_⟩
      unfold wdR at ih
      by_cases q2 : g (F + j + 1) ≤ g (wdR g F j)
      · rw [if_pos q2]; rw [if_pos q2] at ih; exact ih
      · rw [if_neg q2]; rw [if_neg q2] at ih; exact ih
    · rw [if_neg (by omega)]
      rw [show j = N by omega]
      exact hk
def wdV (B : Int → Int) (s : Int) (S : Nat) (F N : Nat) : Nat := wdR (fun d => sHi B s S d - sLo B s S d) F N
theorem m_widest (hB : M 103 = B) (h : BkR bb B) (ha : inR a) (hb : inR b) (hc : inR c) (hd : inR d) (h1 : (0 ≤ a ∧ a < B 721) → (0 ≤ b ∧ b ≤ c ∧ c ≤ 119) → (0 ≤ d ∧ d ≤ 119) → sOk B a (cnt B a d) → ∀ M', FrM M M' → kk (wdV B a (cnt B a d) b.toNat (c - b).toNat : Nat) M') (h0 : ¬ ((0 ≤ a ∧ a < B 721) ∧ (0 ≤ b ∧ b ≤ c ∧ c ≤ 119) ∧ (0 ≤ d ∧ d ≤ 119) ∧ sOk B a (cnt B a d)) → ∀ M', FrM M M' → kk (-1) M') : Bd (wX12_widest a b c d M) kk := by
  have n0 := h.1.1
  subst hB
  apply Bd.of; unfold wX12_widest
  refine i_asked ha hb hd (by omega) (fun c1 c2 c3 => ?_) (fun q => h0 (fun z => q ⟨z.1, by omega, z.2.2.1⟩) _ FrM.refl)
  refine i_in hc hb (inRl (by decide)) (fun c4 => ?_) (fun q => h0 (fun z => q (by omega)) _ FrM.refl)
  refine b_cnt h ha hd ?_
  have hS := cnt_lgs (s := a) h.1 d
  refine i_spans rfl h ha hS (cnt_lt h.1) (fun q M' hf hh => ?_) (fun q M' hf => h0 (fun z => q z.2.2.2) M' hf)
  have h1 := h1 c1 (by omega) c3 q M' hf
  obtain ⟨F, eb⟩ : ∃ F : Nat, b = (F : Int) := ⟨b.toNat, by omega⟩
  obtain ⟨N, ec⟩ : ∃ N : Nat, c = (F : Int) + (N : Int) := ⟨(c - b).toNat, by omega⟩
  subst eb ec
  rw [Int.toNat_natCast, show ((F : Int) + (N : Int) - (F : Int)).toNat = N by omega] at h1
  have hg : ∀ x : Nat, x < 120 → M' 107 (x : Int) - M' 106 (x : Int) = sHi (M 103) a (cnt (M 103) a d) x - sLo (M 103) a (cnt (M 103) a d) x ∧ inR (sHi (M 103) a (cnt (M 103) a d) x - sLo (M 103) a (cnt (M 103) a d) x) := by
    intro x hx
    have := hh x hx
    have r := sOk_range h hS q x hx
    rw [this.1, this.2]
    exact ⟨rfl, (inRof ⟨by omega, by omega⟩)⟩
  have := l_mwd (M := M') (F := F) (N := N) (Q := kk) (by omega) hg h1 (N + 1) 0 (by omega) (by omega)
  refine ⟨N + 1 + 1, ?_⟩
  unfold wX12_widest_44
  refine ⟨(inRof ⟨by omega, by omega⟩), (inRof ⟨by omega, by omega⟩), ?_⟩
  rw [if_pos (by omega), (hg F (by omega)).1]
  have gr := (hg F (by omega)).2
  refine ⟨⟨by omega, by omega⟩, ⟨by omega, by omega⟩, gr, gr, ?_⟩
  rw [if_pos (Int.le_refl _)]
  rw [show (F : Int) + ((0 : Nat) : Int) = (F : Int) by omega] at this
  exact this
theorem op_widest (ha : inR a) (hb : inR b) (hc : inR c) (hd : inR d) (hI : Inv M) (hk : ∀ M, Inv M → k M) : Bd (wX11_widest a b c d M) (fun r1 M1 => Bd (wX12_widest a b c d M1) (fun r2 M2 => inR r1 ∧ inR r2 ∧ r1 = r2 ∧ k M2)) := by
  have hB := hI.1
  have n0 := hB.1.1
  have fin : ¬ ((0 ≤ a ∧ a < M 103 721) ∧ (0 ≤ b ∧ b ≤ c ∧ c ≤ 119) ∧ (0 ≤ d ∧ d ≤ 119) ∧ sOk (M 103) a (cnt (M 103) a d)) → ∀ M', Inv M' → M' 103 = M 103 → Bd (wX12_widest a b c d M') (fun r2 M2 => inR (-1) ∧ inR r2 ∧ -1 = r2 ∧ k M2) := fun q M' hI' ee => m_widest ee hB ha hb hc hd (fun q1 q2 q3 q4 => absurd ⟨q1, q2, q3, q4⟩ q) (fun _ M2 hf => ⟨(inRl (by decide)), (inRl (by decide)), rfl, hk _ (hI'.frM hf)⟩)
  apply Bd.of; unfold wX11_widest
  refine i_stretch hb hc (fun s1 s2 s3 => ?_) (fun q => fin (fun z => q z.2.1) M hI rfl)
  refine i_bak hB ha hd (fun q M' hf => fin (fun z => q ⟨z.1, z.2.2.1, z.2.2.2⟩) M' (hI.frX (fun c hc => hf c (by omega))) (hf 103 (by omega))) (fun c1 c3 q M' hf hb' hn hh => ?_)
  have hS := cnt_lgs (s := a) hB.1 d
  have hI' : Inv M' := hI.frX (fun c hc => hf c (by omega))
  obtain ⟨F, eb⟩ : ∃ F : Nat, b = (F : Int) := ⟨b.toNat, by omega⟩
  obtain ⟨N, ec⟩ : ∃ N : Nat, c = (F : Int) + (N : Int) := ⟨(c - b).toNat, by omega⟩
  subst eb ec
  have hg : ∀ x : Nat, x < 120 → M' 82 (x : Int) - M' 81 (x : Int) = sHi (M 103) a (cnt (M 103) a d) x - sLo (M 103) a (cnt (M 103) a d) x ∧ inR (sHi (M 103) a (cnt (M 103) a d) x - sLo (M 103) a (cnt (M 103) a d) x) := by
    intro x hx
    have := hh x hx
    have r := sOk_range hB hS q x hx
    rw [this.1, this.2]
    exact ⟨rfl, (inRof ⟨by omega, by omega⟩)⟩
  have r := wdR_range (fun x => sHi (M 103) a (cnt (M 103) a d) x - sLo (M 103) a (cnt (M 103) a d) x) F N
  have := l_xwd (M := M') (F := F) (N := N) (Q := (fun r1 M1 => Bd (wX12_widest a (F : Int) ((F : Int) + (N : Int)) d M1) (fun r2 M2 => inR r1 ∧ inR r2 ∧ r1 = r2 ∧ k M2))) (by omega) hg ?_ (N + 1) 0 (by omega) (by omega)
  · refine ⟨N + 1, ?_⟩
    rw [show (F : Int) + ((0 : Nat) : Int) = (F : Int) by omega] at this
    exact this
  · refine m_widest (hf 103 (by omega)) hB ha hb hc hd (fun _ _ _ _ M3 hf3 => ?_) (fun z => absurd ⟨c1, ⟨s1, s2, s3⟩, c3, q⟩ z)
    rw [Int.toNat_natCast, show ((F : Int) + (N : Int) - (F : Int)).toNat = N by omega]
    have hr : inR (wdV (M 103) a (cnt (M 103) a d) F N : Nat) := by unfold wdV; exact (inRof ⟨by omega, by omega⟩)
    exact ⟨hr, hr, rfl, hk _ (hI'.frM hf3)⟩
end Lost
