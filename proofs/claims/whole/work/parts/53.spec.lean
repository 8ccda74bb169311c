/-! ===== what the model's private methods answer, as functions of its row B ===== -/
def leftR (B : Int → Int) (s d : Int) : Nat → Int
  | 0 => -1
  | n + 1 => if leftR B s d n ≠ -1 then leftR B s d n else if B (383 + 3 * (n : Int)) = s ∧ B (384 + 3 * (n : Int)) = d then B (385 + 3 * (n : Int)) else -1
/-- what was left on a day on which it was cleaned; -1 else -/
def left (B : Int → Int) (s d : Int) : Int := leftR B s d (B 723).toNat
def legR (B : Int → Int) (s d : Int) : Nat → Int
  | 0 => -1
  | n + 1 => if B (23 + 6 * (n : Int)) = s ∧ B (24 + 6 * (n : Int)) ≤ d ∧ (legR B s d n = -1 ∨ B (24 + 6 * legR B s d n) ≤ B (24 + 6 * (n : Int))) then (n : Int) else legR B s d n
/-- the leg of a day; -1 without -/
def leg (B : Int → Int) (s d : Int) : Int := legR B s d (B 722).toNat
def onD (B : Int → Int) (s d w : Int) : Int := if leg B s d = -1 then 0 else B (23 + 6 * leg B s d + w)
def spd (B : Int → Int) (s d : Int) : Int := onD B s d 3
def byT (B : Int → Int) (s d w : Int) : Int := if spd B s d = 0 then B (3 + 6 * w + onD B s d 2) else B (15 + 4 * w + spd B s d / 8)
def prt (B : Int → Int) (s d z w : Int) : Int := if w = 0 then spd B s d * spd B s d * B s else if w = 1 then onD B s d 4 * onD B s d 4 * spd B s d else if w = 2 then onD B s d 5 * spd B s d else spd B s d * spd B s d * z
def ful (B : Int → Int) (s d z : Int) : Int := (prt B s d z 0 + prt B s d z 1 + prt B s d z 2 + prt B s d z 3) / 100
def skn (B : Int → Int) (s d z : Int) : Int := prt B s d z 3 / 100
theorem legR_range (B : Int → Int) (s d : Int) : ∀ n : Nat, -1 ≤ legR B s d n ∧ legR B s d n < (n : Int)
  | 0 => ⟨by show (-1 : Int) ≤ -1; omega, by show (-1 : Int) < 0; omega⟩
  | n + 1 => by
    have ih := legR_range B s d n
    show -1 ≤ (if _ then _ else _) ∧ (if _ then _ else _) < ((n + 1 : Nat) : Int)
    split <;> omega
theorem leftR_stay {B : Int → Int} {s d : Int} {j : Nat} (h : leftR B s d j ≠ -1) : ∀ n : Nat, leftR B s d (j + n) = leftR B s d j
  | 0 => rfl
  | n + 1 => by
    have ih := leftR_stay h n
    show (if leftR B s d (j + n) ≠ -1 then leftR B s d (j + n) else _) = _
    rw [ih, if_pos h]
section Facts
variable {b : Mm} {B : Int → Int} {s d : Int}
theorem leg_facts (n : BkN b B) : -1 ≤ leg B s d ∧ leg B s d < B 722 := by
  have h := legR_range B s d (B 722).toNat
  have h2 := n.2.1
  unfold leg
  omega
theorem onD_range (h : BkR b B) : (0 ≤ onD B s d 2 ∧ onD B s d 2 ≤ 5) ∧ (0 ≤ onD B s d 3 ∧ onD B s d 3 ≤ 30) ∧ (0 ≤ onD B s d 4 ∧ onD B s d 4 ≤ 20) ∧ (0 ≤ onD B s d 5 ∧ onD B s d 5 ≤ 100) := by
  have hl := leg_facts (s := s) (d := d) h.1
  unfold onD
  by_cases c : leg B s d = -1
  · rw [if_pos c, if_pos c, if_pos c, if_pos c]; omega
  · rw [if_neg c, if_neg c, if_neg c, if_neg c]
    obtain ⟨-, -, -, r3, r4, r5, r6⟩ := h.2.2.2.2.1 (leg B s d) (by omega) (by omega)
    rw [show 23 + 6 * leg B s d + 2 = 25 + 6 * leg B s d by omega, show 23 + 6 * leg B s d + 3 = 26 + 6 * leg B s d by omega, show 23 + 6 * leg B s d + 4 = 27 + 6 * leg B s d by omega, show 23 + 6 * leg B s d + 5 = 28 + 6 * leg B s d by omega]
    exact ⟨r3, r4, r5, r6⟩
theorem spd_range (h : BkR b B) : 0 ≤ spd B s d ∧ spd B s d ≤ 30 := (onD_range h).2.1
theorem byT_range (h : BkR b B) : -100 ≤ byT B s d 0 ∧ byT B s d 0 ≤ byT B s d 1 ∧ byT B s d 1 ≤ 100 := by
  have h2 := (onD_range (s := s) (d := d) h).1
  have h3 := spd_range (s := s) (d := d) h
  unfold byT
  by_cases c : spd B s d = 0
  · rw [if_pos c, if_pos c]
    have := h.2.2.2.1.1 (onD B s d 2) h2.1 (by omega)
    rw [show 3 + 6 * 0 + onD B s d 2 = 3 + onD B s d 2 by omega, show 3 + 6 * 1 + onD B s d 2 = 9 + onD B s d 2 by omega]
    exact this.2.2
  · rw [if_neg c, if_neg c]
    have := h.2.2.2.1.2 (spd B s d / 8) (by omega) (by omega)
    rw [show 15 + 4 * 0 + spd B s d / 8 = 15 + spd B s d / 8 by omega, show 15 + 4 * 1 + spd B s d / 8 = 19 + spd B s d / 8 by omega]
    exact this.2.2
theorem prt_range (h : BkR b B) (hs : 0 ≤ s ∧ s < B 721) {z : Int} (hz : 0 ≤ z ∧ z ≤ 1000) : (0 ≤ prt B s d z 0 ∧ prt B s d z 0 ≤ 900000) ∧ (0 ≤ prt B s d z 1 ∧ prt B s d z 1 ≤ 12000) ∧ (0 ≤ prt B s d z 2 ∧ prt B s d z 2 ≤ 3000) ∧ (0 ≤ prt B s d z 3 ∧ prt B s d z 3 ≤ 900000) := by
  have hv := spd_range (s := s) (d := d) h
  obtain ⟨-, -, h4, h5⟩ := onD_range (s := s) (d := d) h
  have hb := h.2.2.1 s hs.1 hs.2
  have v2 := mulb (a := spd B s d) (b := spd B s d) (A := 30) (B := 30) hv.1 hv.2 (by omega) hv.2 (by omega)
  have v2' : 0 ≤ spd B s d * spd B s d := Int.mul_nonneg hv.1 hv.1
  have p0 := mulb (a := spd B s d * spd B s d) (b := B s) (A := 900) (B := 1000) v2' (by omega) (by omega) hb.2.2 (by omega)
  have p0' : 0 ≤ spd B s d * spd B s d * B s := Int.mul_nonneg v2' hb.2.1
  have w2 := mulb (a := onD B s d 4) (b := onD B s d 4) (A := 20) (B := 20) h4.1 h4.2 (by omega) h4.2 (by omega)
  have w2' : 0 ≤ onD B s d 4 * onD B s d 4 := Int.mul_nonneg h4.1 h4.1
  have p1 := mulb (a := onD B s d 4 * onD B s d 4) (b := spd B s d) (A := 400) (B := 30) w2' (by omega) (by omega) hv.2 (by omega)
  have p1' : 0 ≤ onD B s d 4 * onD B s d 4 * spd B s d := Int.mul_nonneg w2' hv.1
  have p2 := mulb (a := onD B s d 5) (b := spd B s d) (A := 100) (B := 30) h5.1 h5.2 (by omega) hv.2 (by omega)
  have p2' : 0 ≤ onD B s d 5 * spd B s d := Int.mul_nonneg h5.1 hv.1
  have p3 := mulb (a := spd B s d * spd B s d) (b := z) (A := 900) (B := 1000) v2' (by omega) (by omega) hz.2 (by omega)
  have p3' : 0 ≤ spd B s d * spd B s d * z := Int.mul_nonneg v2' hz.1
  have e0 : prt B s d z 0 = spd B s d * spd B s d * B s := by unfold prt; rw [if_pos rfl]
  have e1 : prt B s d z 1 = onD B s d 4 * onD B s d 4 * spd B s d := by unfold prt; rw [if_neg (by decide), if_pos rfl]
  have e2 : prt B s d z 2 = onD B s d 5 * spd B s d := by unfold prt; rw [if_neg (by decide), if_neg (by decide), if_pos rfl]
  have e3 : prt B s d z 3 = spd B s d * spd B s d * z := by unfold prt; rw [if_neg (by decide), if_neg (by decide), if_neg (by decide)]
  rw [e0, e1, e2, e3]
  omega
theorem left_range (h : BkR b B) : -1 ≤ left B s d ∧ left B s d ≤ 1000 := by
  have key : ∀ n : Nat, (n : Int) ≤ B 723 → -1 ≤ leftR B s d n ∧ leftR B s d n ≤ 1000 := by
    intro n
    induction n with
    | zero => intro _; exact ⟨by show (-1 : Int) ≤ -1; omega, by show (-1 : Int) ≤ 1000; omega⟩
    | succ n ih =>
      intro hn
      have ih := ih (by omega)
      have hc := h.2.2.2.2.2.1.1 (n : Int) (by omega) (by omega)
      have e : leftR B s d (n + 1) = if leftR B s d n ≠ -1 then leftR B s d n else if B (383 + 3 * (n : Int)) = s ∧ B (384 + 3 * (n : Int)) = d then B (385 + 3 * (n : Int)) else -1 := rfl
      rw [e]
      by_cases c1 : leftR B s d n ≠ -1
      · rw [if_pos c1]; exact ih
      · rw [if_neg c1]
        by_cases c2 : B (383 + 3 * (n : Int)) = s ∧ B (384 + 3 * (n : Int)) = d
        · rw [if_pos c2]; omega
        · rw [if_neg c2]; omega
  have h3 := h.1.2.2.1
  exact key (B 723).toNat (by omega)
end Facts
section Mod
variable {M : Mm} {k : Int → Mm → Prop} {s d z w : Int}
theorem l_left {Q : Int → Mm → Prop} {s d : Int} {N : Nat} {bb : Mm} (h : BkR bb (M 103)) (hs : inR s) (hd : inR d) (hN : M 103 723 = (N : Int)) (hk : Q (leftR (M 103) s d N) M) : ∀ (f j : Nat), j ≤ N → N - j < f → leftR (M 103) s d j = -1 → wX12_leftOn_2 Q s d f (j : Int) M := by
  intro f
  induction f with
  | zero => intro j h1 h2; omega
  | succ f ih =>
    intro j h1 h2 hj
    unfold wX12_leftOn_2
    have n2 := h.1.2.2.1
    have e1 : M 103 (721 + 2) = (N : Int) := hN
    refine b_many (by omega) ?_
    rw [e1]
    refine ⟨inRof ⟨by omega, by omega⟩, inRof ⟨by omega, by omega⟩, ?_⟩
    by_cases c : (j : Int) < (N : Int)
    · rw [if_pos c]
      have hc := h.2.2.2.2.2.1.1 (j : Int) (by omega) (by omega)
      have n0 := h.1.1
      have nx : ¬ (M 103 (383 + 3 * (j : Int)) = s ∧ M 103 (384 + 3 * (j : Int)) = d) → wX12_leftOn_2 Q s d f ((j : Int) + 1) M := by
        intro hno
        refine ih (j + 1) (by omega) (by omega) ?_
        show (if leftR (M 103) s d j ≠ -1 then leftR (M 103) s d j else if _ then _ else -1) = -1
        rw [if_neg (by rw [hj]; decide), if_neg hno]
      refine b_clean (x := 383 + 3 * (j : Int)) (by omega) (by omega) (by omega) ⟨inRof ⟨by omega, by omega⟩, hs, ?_⟩
      by_cases c1 : M 103 (383 + 3 * (j : Int)) = s
      · rw [if_pos c1]
        refine b_clean (x := 384 + 3 * (j : Int)) (by omega) (by omega) (by omega) ⟨inRof ⟨by omega, by omega⟩, hd, ?_⟩
        by_cases c2 : M 103 (384 + 3 * (j : Int)) = d
        · rw [if_pos c2]
          unfold wX12_leftOn_31
          refine b_clean (x := 385 + 3 * (j : Int)) (by omega) (by omega) (by omega) ?_
          have e2 : leftR (M 103) s d (j + 1) = M 103 (385 + 3 * (j : Int)) := by
            show (if leftR (M 103) s d j ≠ -1 then leftR (M 103) s d j else if _ then _ else -1) = _
            rw [if_neg (by rw [hj]; decide), if_pos ⟨c1, c2⟩]
          have e3 := leftR_stay (j := j + 1) (by rw [e2]; omega) (N - (j + 1)) (B := M 103) (s := s) (d := d)
          rw [show j + 1 + (N - (j + 1)) = N by omega, e2] at e3
          rw [← e3]
          exact hk
        · rw [if_neg c2]
          exact nx (fun q => c2 q.2)
      · rw [if_neg c1]
        exact nx (fun q => c1 q.1)
    · rw [if_neg c]
      rw [show j = N by omega] at hj
      rw [hj] at hk
      exact hk
theorem b_left {bb : Mm} (h : BkR bb (M 103)) (hs : inR s) (hd : inR d) (hk : k (left (M 103) s d) M) : Bd (wX12_leftOn s d M) k := by
  apply Bd.of; unfold wX12_leftOn
  have n2 := h.1.2.2.1
  exact ⟨41, l_left (N := (M 103 723).toNat) h hs hd (by omega) hk 41 0 (by omega) (by omega) rfl⟩
theorem l_leg {Q : Int → Mm → Prop} {s d : Int} {N : Nat} {bb : Mm} (h : BkR bb (M 103)) (hs : inR s) (hd : inR d) (hN : M 103 722 = (N : Int)) (hk : Q (legR (M 103) s d N) M) : ∀ (f j : Nat), j ≤ N → N - j < f → wX12_legOn_5 Q s d f (legR (M 103) s d j) (j : Int) M := by
  intro f
  induction f with
  | zero => intro j h1 h2; omega
  | succ f ih =>
    intro j h1 h2
    unfold wX12_legOn_5
    have n2 := h.1.2.1
    have e1 : M 103 (721 + 1) = (N : Int) := hN
    refine b_many (by omega) ?_
    rw [e1]
    refine ⟨inRof ⟨by omega, by omega⟩, inRof ⟨by omega, by omega⟩, ?_⟩
    by_cases c : (j : Int) < (N : Int)
    · rw [if_pos c]
      obtain ⟨-, r1, r2, -⟩ := h.2.2.2.2.1 (j : Int) (by omega) (by omega)
      have n0 := h.1.1
      have hr := legR_range (M 103) s d j
      have ih := ih (j + 1) (by omega) (by omega)
      have step : legR (M 103) s d (j + 1) = if M 103 (23 + 6 * (j : Int)) = s ∧ M 103 (24 + 6 * (j : Int)) ≤ d ∧ (legR (M 103) s d j = -1 ∨ M 103 (24 + 6 * legR (M 103) s d j) ≤ M 103 (24 + 6 * (j : Int))) then (j : Int) else legR (M 103) s d j := rfl
      refine b_legAt (x := 23 + 6 * (j : Int)) (by omega) (by omega) (by omega) ⟨inRof ⟨by omega, by omega⟩, hs, ?_⟩
      by_cases c1 : M 103 (23 + 6 * (j : Int)) = s
      · rw [if_pos c1]
        refine b_legAt (x := 24 + 6 * (j : Int)) (by omega) (by omega) (by omega) ⟨inRof ⟨by omega, by omega⟩, hd, ?_⟩
        by_cases c2 : M 103 (24 + 6 * (j : Int)) ≤ d
        · rw [if_pos c2]
          refine ⟨inRof ⟨by omega, by omega⟩, ?_⟩
          by_cases c3 : legR (M 103) s d j = -1
          · rw [if_pos c3]
            rw [step, if_pos ⟨c1, c2, Or.inl c3⟩] at ih
            exact ih
          · rw [if_neg c3]
            obtain ⟨-, -, r3, -⟩ := h.2.2.2.2.1 (legR (M 103) s d j) (by omega) (by omega)
            refine b_legAt (x := 24 + 6 * (j : Int)) (by omega) (by omega) (by omega) ?_
            refine b_legAt (x := 24 + 6 * legR (M 103) s d j) (by omega) (by omega) (by omega) ⟨inRof ⟨by omega, by omega⟩, inRof ⟨by omega, by omega⟩, ?_⟩
            by_cases c4 : M 103 (24 + 6 * (j : Int)) < M 103 (24 + 6 * legR (M 103) s d j)
            · rw [if_pos c4]
              rw [step, if_neg (by intro q; rcases q.2.2 with q | q; exact c3 q; omega)] at ih
              exact ih
            · rw [if_neg c4]
              rw [step, if_pos ⟨c1, c2, Or.inr (by omega)⟩] at ih
              exact ih
        · rw [if_neg c2]
          rw [step, if_neg (fun q => c2 q.2.1)] at ih
          exact ih
      · rw [if_neg c1]
        rw [step, if_neg (fun q => c1 q.1)] at ih
        exact ih
    · rw [if_neg c]
      rw [show j = N by omega]
      exact hk
theorem b_leg {bb : Mm} (h : BkR bb (M 103)) (hs : inR s) (hd : inR d) (hk : k (leg (M 103) s d) M) : Bd (wX12_legOn s d M) k := by
  apply Bd.of; unfold wX12_legOn
  have n2 := h.1.2.1
  exact ⟨61, l_leg (N := (M 103 722).toNat) h hs hd (by omega) hk 61 0 (by omega) (by omega)⟩
theorem b_onD {bb : Mm} (h : BkR bb (M 103)) (hs : inR s) (hd : inR d) (hw : 0 ≤ w ∧ w ≤ 5) (hk : k (onD (M 103) s d w) M) : Bd (wX12_onDay s d w M) k := by
  apply Bd.of; unfold wX12_onDay
  have hl := leg_facts (s := s) (d := d) h.1
  have n2 := h.1.2.1
  refine b_leg h hs hd ⟨inRof ⟨by omega, by omega⟩, ?_⟩
  unfold onD at hk
  by_cases c : leg (M 103) s d = -1
  · rw [if_pos c]; rw [if_pos c] at hk; exact hk
  · rw [if_neg c]; rw [if_neg c] at hk
    exact b_legAt (by omega) (by omega) rfl hk
theorem b_spd {bb : Mm} (h : BkR bb (M 103)) (hs : inR s) (hd : inR d) (hk : k (spd (M 103) s d) M) : Bd (wX12_speedOn s d M) k := by
  apply Bd.of; unfold wX12_speedOn
  exact b_onD h hs hd (by omega) hk
theorem b_byT {bb : Mm} (h : BkR bb (M 103)) (hs : inR s) (hd : inR d) (hw : w = 0 ∨ w = 1) (hk : k (byT (M 103) s d w) M) : Bd (wX12_byTable s d w M) k := by
  apply Bd.of; unfold wX12_byTable
  have hv := spd_range (s := s) (d := d) h
  have ho := (onD_range (s := s) (d := d) h).1
  unfold byT at hk
  refine b_spd h hs hd ⟨inRof ⟨by omega, by omega⟩, ?_⟩
  by_cases c : spd (M 103) s d = 0
  · rw [if_pos c]; rw [if_pos c] at hk
    exact b_onD h hs hd (by omega) ⟨⟨by omega, by omega⟩, hk⟩
  · rw [if_neg c]; rw [if_neg c] at hk
    rw [Int.tdiv_eq_ediv_of_nonneg hv.1]
    exact ⟨⟨by omega, by omega⟩, hk⟩
theorem b_prt {bb : Mm} (h : BkR bb (M 103)) (hs : 0 ≤ s ∧ s < M 103 721) (hd : inR d) (hw : inR w) (hk : k (prt (M 103) s d z w) M) : Bd (wX12_portion s d z w M) k := by
  apply Bd.of; unfold wX12_portion
  have n0 := h.1.1
  have hs' : inR s := inRof ⟨by omega, by omega⟩
  unfold prt at hk
  refine b_spd h hs' hd ⟨hw, ?_⟩
  by_cases c0 : w = 0
  · rw [if_pos c0]; rw [if_pos c0] at hk
    rw [show (0 : Int) + s = s by omega]
    exact ⟨⟨by omega, by omega⟩, hk⟩
  · rw [if_neg c0]; rw [if_neg c0] at hk
    by_cases c1 : w = 1
    · rw [if_pos c1]; rw [if_pos c1] at hk
      exact b_onD h hs' hd (by omega) (b_onD h hs' hd (by omega) hk)
    · rw [if_neg c1]; rw [if_neg c1] at hk
      by_cases c2 : w = 2
      · rw [if_pos c2]; rw [if_pos c2] at hk
        exact b_onD h hs' hd (by omega) hk
      · rw [if_neg c2]; rw [if_neg c2] at hk
        exact hk
theorem b_ful {bb : Mm} (h : BkR bb (M 103)) (hs : 0 ≤ s ∧ s < M 103 721) (hd : inR d) (hz : 0 ≤ z ∧ z ≤ 1000) (hk : k (ful (M 103) s d z) M) : Bd (wX12_fuel s d z M) k := by
  apply Bd.of; unfold wX12_fuel
  have hp := prt_range (d := d) h hs hz
  refine b_prt h hs hd inR0 (b_prt h hs hd inR1 (b_prt h hs hd (inRl (by decide)) (b_prt h hs hd (inRl (by decide)) ⟨inRof ⟨by omega, by omega⟩, ?_⟩)))
  rw [Int.tdiv_eq_ediv_of_nonneg (by omega)]
  exact hk
theorem b_skn {bb : Mm} (h : BkR bb (M 103)) (hs : 0 ≤ s ∧ s < M 103 721) (hd : inR d) (hz : 0 ≤ z ∧ z ≤ 1000) (hk : k (skn (M 103) s d z) M) : Bd (wX12_skin s d z M) k := by
  apply Bd.of; unfold wX12_skin
  have hp := prt_range (d := d) h hs hz
  refine b_prt h hs hd (inRl (by decide)) ⟨inRof ⟨by omega, by omega⟩, ?_⟩
  rw [Int.tdiv_eq_ediv_of_nonneg (by omega)]
  exact hk
end Mod
