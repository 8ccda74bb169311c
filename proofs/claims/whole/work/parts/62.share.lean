/-! ===== share ===== -/
def shA (p : Int → Int) (own w : Int) : Nat → Int
  | 0 => 0
  | n + 1 => if own % 100 < p (n : Int) % 100 ∨ (p (n : Int) % 100 = own % 100 ∧ (n : Int) < w) then shA p own w n + 1 else shA p own w n
def shR (p : Int → Int) (all : Int) : Nat → Int
  | 0 => all
  | n + 1 => shR p all n - p (n : Int) / 100
def shV (p : Int → Int) (all w : Int) : Int := if shA p (p w) w 4 < shR p all 4 then p w / 100 + 1 else p w / 100
def shareV (B : Int → Int) (a b c d : Int) : Int := if (0 ≤ a ∧ a < B 721) ∧ (0 ≤ b ∧ b ≤ 119) ∧ (0 ≤ c ∧ c ≤ 1000) ∧ (0 ≤ d ∧ d ≤ 4) then (if d = 4 then ful B a b c else shV (prt B a b c) (ful B a b c) d) else -1
theorem shA_range (p : Int → Int) (own w : Int) : ∀ n : Nat, 0 ≤ shA p own w n ∧ shA p own w n ≤ (n : Int)
  | 0 => ⟨by show (0 : Int) ≤ 0; omega, by show (0 : Int) ≤ 0; omega⟩
  | n + 1 => by
    have ih := shA_range p own w n
    unfold shA
    split <;> omega
theorem shR_range {p : Int → Int} {all : Int} (hp : ∀ i, 0 ≤ i → i ≤ 3 → 0 ≤ p i ∧ p i ≤ 900000) : ∀ n : Nat, n ≤ 4 → all - 9000 * (n : Int) ≤ shR p all n ∧ shR p all n ≤ all
  | 0, _ => ⟨by show all - _ ≤ all; omega, by show all ≤ all; omega⟩
  | n + 1, h => by
    have ih := shR_range (all := all) hp n (by omega)
    have hq := hp (n : Int) (by omega) (by omega)
    show _ ≤ shR p all n - p (n : Int) / 100 ∧ shR p all n - p (n : Int) / 100 ≤ all
    omega
theorem prt_all {b : Mm} {B : Int → Int} {s d z : Int} (h : BkR b B) (hs : 0 ≤ s ∧ s < B 721) (hz : 0 ≤ z ∧ z ≤ 1000) : ∀ i, 0 ≤ i → i ≤ 3 → 0 ≤ prt B s d z i ∧ prt B s d z i ≤ 900000 := by
  intro i h0 h1
  have hp := prt_range (d := d) h hs hz
  rcases (show i = 0 ∨ i = 1 ∨ i = 2 ∨ i = 3 by omega) with e | e | e | e <;> rw [e] <;> omega
section Share
variable {M : Mm} {k : Mm → Prop} {kk : Int → Mm → Prop} {a b c d s z w : Int} {bb : Mm} {B : Int → Int}
theorem l_xsh {Q : Int → Mm → Prop} (h : BkR M B) (hs : 0 ≤ s ∧ s < B 721) (hn : NtA M B s) (hd : 0 ≤ d ∧ d < 120) (hz : 0 ≤ z ∧ z ≤ 1000) (hw : 0 ≤ w ∧ w ≤ 3) (hk : Q (shV (prt B s d z) (ful B s d z) w) M) : ∀ (f j : Nat), j ≤ 4 → 4 - j < f → wX6_shareOf_23 Q w d z (prt B s d z w) f (shR (prt B s d z) (ful B s d z) j) (shA (prt B s d z) (prt B s d z w) w j) (j : Int) M := by
  have hp := prt_all (d := d) h hs hz
  have hf : 0 ≤ ful B s d z ∧ ful B s d z ≤ 40000 := by
    have h0 := hp 0 (by omega) (by omega); have h1 := hp 1 (by omega) (by omega); have h2 := hp 2 (by omega) (by omega); have h3 := hp 3 (by omega) (by omega)
    unfold ful; omega
  have ho := hp w (by omega) (by omega)
  intro f
  induction f with
  | zero => intro j h1 h2; omega
  | succ f ih =>
    intro j h1 h2
    unfold wX6_shareOf_23
    refine ⟨(inRof ⟨by omega, by omega⟩), ?_⟩
    have ra := shA_range (prt B s d z) (prt B s d z w) w j
    have rr := shR_range (all := ful B s d z) hp j h1
    by_cases q : (j : Int) < 4
    · rw [if_pos q]
      have ih := ih (j + 1) (by omega) (by omega)
      have hj := hp (j : Int) (by omega) (by omega)
      have st : shA (prt B s d z) (prt B s d z w) w (j + 1) = if prt B s d z w % 100 < prt B s d z (j : Int) % 100 ∨ (prt B s d z (j : Int) % 100 = prt B s d z w % 100 ∧ (j : Int) < w) then shA (prt B s d z) (prt B s d z w) w j + 1 else shA (prt B s d z) (prt B s d z w) w j := rfl
      have sr : shR (prt B s d z) (ful B s d z) (j + 1) = shR (prt B s d z) (ful B s d z) j - prt B s d z (j : Int) / 100 := rfl
      rw [st, sr] at ih
      refine b_por h hs hn hd (by omega) ?_
      rw [Int.tmod_eq_emod_of_nonneg hj.1, Int.tmod_eq_emod_of_nonneg ho.1, Int.tdiv_eq_ediv_of_nonneg hj.1]
      refine ⟨(inRof ⟨by omega, by omega⟩), (inRof ⟨by omega, by omega⟩), (inRof ⟨by omega, by omega⟩), (inRof ⟨by omega, by omega⟩), ?_⟩
      by_cases c1 : prt B s d z (j : Int) % 100 ≤ prt B s d z w % 100
      · rw [if_pos c1]
        by_cases c2 : prt B s d z (j : Int) % 100 = prt B s d z w % 100
        · rw [if_pos c2]
          refine ⟨(inRof ⟨by omega, by omega⟩), ?_⟩
          by_cases c3 : (j : Int) < w
          · rw [if_pos c3]; rw [if_pos (Or.inr ⟨c2, c3⟩)] at ih; exact ih
          · rw [if_neg c3]; rw [if_neg (by omega)] at ih; exact ih
        · rw [if_neg c2]; rw [if_neg (by omega)] at ih; exact ih
      · rw [if_neg c1]; rw [if_pos (by omega)] at ih; exact ih
    · rw [if_neg q]
      have e : j = 4 := by omega
      subst e
      unfold wX6_shareOf_90
      refine ⟨(inRof ⟨by omega, by omega⟩), (inRof ⟨by omega, by omega⟩), (inRof ⟨by omega, by omega⟩), ?_⟩
      rw [Int.tdiv_eq_ediv_of_nonneg ho.1]
      unfold shV at hk
      by_cases c1 : shA (prt B s d z) (prt B s d z w) w 4 < shR (prt B s d z) (ful B s d z) 4
      · rw [if_pos c1]; rw [if_pos c1] at hk; exact hk
      · rw [if_neg c1]; rw [if_neg c1] at hk; rw [Int.add_zero]; exact hk
theorem l_msh {Q : Int → Mm → Prop} (h : BkR bb (M 103)) (hs : 0 ≤ s ∧ s < M 103 721) (hd : 0 ≤ d ∧ d < 120) (hz : 0 ≤ z ∧ z ≤ 1000) (hw : 0 ≤ w ∧ w ≤ 3) (hk : Q (shV (prt (M 103) s d z) (ful (M 103) s d z) w) M) : ∀ (f j : Nat), j ≤ 4 → 4 - j < f → wX12_share_77 Q s d z w (prt (M 103) s d z w) f (shR (prt (M 103) s d z) (ful (M 103) s d z) j) (shA (prt (M 103) s d z) (prt (M 103) s d z w) w j) (j : Int) M := by
  have hp := prt_all (d := d) h hs hz
  have hf : 0 ≤ ful (M 103) s d z ∧ ful (M 103) s d z ≤ 40000 := by
    have h0 := hp 0 (by omega) (by omega); have h1 := hp 1 (by omega) (by omega); have h2 := hp 2 (by omega) (by omega); have h3 := hp 3 (by omega) (by omega)
    unfold ful; omega
  have ho := hp w (by omega) (by omega)
  intro f
  induction f with
  | zero => intro j h1 h2; omega
  | succ f ih =>
    intro j h1 h2
    unfold wX12_share_77
    refine ⟨(inRof ⟨by omega, by omega⟩), ?_⟩
    have ra := shA_range (prt (M 103) s d z) (prt (M 103) s d z w) w j
    have rr := shR_range (all := ful (M 103) s d z) hp j h1
    by_cases q : (j : Int) < 4
    · rw [if_pos q]
      have ih := ih (j + 1) (by omega) (by omega)
      have hj := hp (j : Int) (by omega) (by omega)
      have st : shA (prt (M 103) s d z) (prt (M 103) s d z w) w (j + 1) = if prt (M 103) s d z w % 100 < prt (M 103) s d z (j : Int) % 100 ∨ (prt (M 103) s d z (j : Int) % 100 = prt (M 103) s d z w % 100 ∧ (j : Int) < w) then shA (prt (M 103) s d z) (prt (M 103) s d z w) w j + 1 else shA (prt (M 103) s d z) (prt (M 103) s d z w) w j := rfl
      have sr : shR (prt (M 103) s d z) (ful (M 103) s d z) (j + 1) = shR (prt (M 103) s d z) (ful (M 103) s d z) j - prt (M 103) s d z (j : Int) / 100 := rfl
      rw [st, sr] at ih
      refine b_prt h hs (inRof ⟨by omega, by omega⟩) (inRof ⟨by omega, by omega⟩) ?_
      rw [Int.tdiv_eq_ediv_of_nonneg hj.1]
      refine ⟨(inRof ⟨by omega, by omega⟩), (inRof ⟨by omega, by omega⟩), ?_⟩
      by_cases c0 : (j : Int) = w
      · rw [if_pos c0, Int.add_zero]
        rw [if_neg (by rw [c0]; omega)] at ih
        exact ih
      rw [if_neg c0, Int.add_zero]
      rw [Int.tmod_eq_emod_of_nonneg hj.1, Int.tmod_eq_emod_of_nonneg ho.1]
      refine ⟨(inRof ⟨by omega, by omega⟩), (inRof ⟨by omega, by omega⟩), (inRof ⟨by omega, by omega⟩), ?_⟩
      by_cases c1 : prt (M 103) s d z (j : Int) % 100 ≤ prt (M 103) s d z w % 100
      · rw [if_pos c1]
        by_cases c2 : prt (M 103) s d z (j : Int) % 100 = prt (M 103) s d z w % 100
        · rw [if_pos c2]
          by_cases c3 : (j : Int) < w
          · rw [if_pos c3]; rw [if_pos (Or.inr ⟨c2, c3⟩)] at ih; exact ih
          · rw [if_neg c3]; rw [if_neg (by omega)] at ih; exact ih
        · rw [if_neg c2]; rw [if_neg (by omega)] at ih; exact ih
      · rw [if_neg c1]; rw [if_pos (by omega)] at ih; exact ih
    · rw [if_neg q]
      have e : j = 4 := by omega
      subst e
      unfold wX12_share_160
      refine ⟨(inRof ⟨by omega, by omega⟩), (inRof ⟨by omega, by omega⟩), (inRof ⟨by omega, by omega⟩), ?_⟩
      rw [Int.tdiv_eq_ediv_of_nonneg ho.1]
      unfold shV at hk
      by_cases c1 : shA (prt (M 103) s d z) (prt (M 103) s d z w) w 4 < shR (prt (M 103) s d z) (ful (M 103) s d z) 4
      · rw [if_pos c1]; rw [if_pos c1] at hk; exact hk
      · rw [if_neg c1]; rw [if_neg c1] at hk; rw [Int.add_zero]; exact hk
theorem m_share (h : BkR bb (M 103)) (ha : inR a) (hb : inR b) (hc : inR c) (hd : inR d) (hk : kk (shareV (M 103) a b c d) M) : Bd (wX12_share a b c d M) kk := by
  have n0 := h.1.1
  unfold shareV at hk
  apply Bd.of; unfold wX12_share
  refine i_mShip ha (by omega) (fun c1 => ?_) (fun c1 => by rw [if_neg (by omega)] at hk; exact hk)
  refine i_mDay hb (fun c2 => ?_) (fun c2 => by rw [if_neg (by omega)] at hk; exact hk)
  refine i_in hc inR0 (inRl (by decide)) (fun c3 => ?_) (fun c3 => by rw [if_neg (by omega)] at hk; exact hk)
  refine i_in hd inR0 (inRl (by decide)) (fun c4 => ?_) (fun c4 => by rw [if_neg (by omega)] at hk; exact hk)
  rw [if_pos ⟨c1, c2, c3, c4⟩] at hk
  refine b_ful h c1 hb c3 ⟨hd, ?_⟩
  by_cases q : d = 4
  · rw [if_pos q]; rw [if_pos q] at hk; exact hk
  · rw [if_neg q]; rw [if_neg q] at hk
    refine b_prt h c1 hb hd ⟨5, ?_⟩
    exact l_msh h c1 (by omega) c3 (by omega) hk 5 0 (by omega) (by omega)
theorem shareV_range (h : BkR bb B) : inR (shareV B a b c d) := by
  unfold shareV
  by_cases q : (0 ≤ a ∧ a < B 721) ∧ (0 ≤ b ∧ b ≤ 119) ∧ (0 ≤ c ∧ c ≤ 1000) ∧ (0 ≤ d ∧ d ≤ 4)
  · rw [if_pos q]
    have hp := prt_all (d := b) h q.1 q.2.2.1
    have h0 := hp 0 (by omega) (by omega); have h1 := hp 1 (by omega) (by omega); have h2 := hp 2 (by omega) (by omega); have h3 := hp 3 (by omega) (by omega)
    by_cases q2 : d = 4
    · rw [if_pos q2]; unfold ful; exact (inRof ⟨by omega, by omega⟩)
    · rw [if_neg q2]
      have ho := hp d (by omega) (by omega)
      unfold shV
      split <;> exact (inRof ⟨by omega, by omega⟩)
  · rw [if_neg q]; exact (inRl (by decide))
theorem op_share (ha : inR a) (hb : inR b) (hc : inR c) (hd : inR d) (hI : Inv M) (hk : ∀ M, Inv M → k M) : Bd (wX11_share a b c d M) (fun r1 M1 => Bd (wX12_share a b c d M1) (fun r2 M2 => inR r1 ∧ inR r2 ∧ r1 = r2 ∧ k M2)) := by
  have hB := hI.1
  have n0 := hB.1.1
  have hr : inR (shareV (M 103) a b c d) := shareV_range hB
  have fin : ∀ (M' : Mm) (r : Int), Inv M' → M' 103 = M 103 → r = shareV (M 103) a b c d → Bd (wX12_share a b c d M') (fun r2 M2 => inR r ∧ inR r2 ∧ r = r2 ∧ k M2) := by
    intro M' r hI' e3 er
    refine m_share (bb := M') hI'.1 ha hb hc hd ?_
    rw [e3, ← er]
    rw [← er] at hr
    exact ⟨hr, hr, rfl, hk _ hI'⟩
  apply Bd.of; unfold wX11_share
  refine i_isShip ha (by omega) (fun c1 => ?_) (fun c1 => fin M _ hI rfl (by unfold shareV; rw [if_neg (fun z => by omega)]))
  refine i_isDay hb (fun c2 => ?_) (fun c2 => fin M _ hI rfl (by unfold shareV; rw [if_neg (fun z => by omega)]))
  refine i_within hc inR0 (inRl (by decide)) (fun c3 => ?_) (fun c3 => fin M _ hI rfl (by unfold shareV; rw [if_neg (fun z => by omega)]))
  refine i_within hd inR0 (inRl (by decide)) (fun c4 => ?_) (fun c4 => fin M _ hI rfl (by unfold shareV; rw [if_neg (fun z => by omega)]))
  have c1' : 0 ≤ a ∧ a < M 103 721 := by omega
  refine b_load hB c1' (fun M' k1 k2 k3 k4 => ⟨hd, ?_⟩)
  have hI' := hI.calm k1
  have e3 : M' 103 = M 103 := k1 103 (by omega)
  by_cases q : d = 4
  · rw [if_pos q]
    exact b_nful k3 c1' k4.1 (by omega) c3 (fin M' _ hI' e3 (by unfold shareV; rw [if_pos ⟨c1', c2, c3, c4⟩, if_pos q]))
  · rw [if_neg q]
    apply Bd.of; unfold wX6_shareOf
    refine b_por k3 c1' k4.1 (by omega) (by omega) (b_nful k3 c1' k4.1 (by omega) c3 ⟨5, ?_⟩)
    exact l_xsh k3 c1' k4.1 (by omega) c3 (by omega) (fin M' _ hI' e3 (by unfold shareV; rw [if_pos ⟨c1', c2, c3, c4⟩, if_neg q])) 5 0 (by omega) (by omega)
end Share
