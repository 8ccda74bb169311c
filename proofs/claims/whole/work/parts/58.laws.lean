/-! ===== Net: laws and cleanings of the days ===== -/
section Laws
variable {k : Mm → Prop} {s : Int} {B : Int → Int}
theorem BkR_up {M : Mm} {c : Nat} {i v : Int} (h : BkR M B) (hc : 24 ≤ c) : BkR (up M c i v) B := BkR_congr (fun c' h1 h2 j _ _ => by rw [up_ne (by omega)]) (fun _ _ _ => rfl) h
theorem fl63 {Q : Mm → Prop} {kk : Int → Mm → Prop} {M : Mm} {v : Int} (h : BkR M B) (hv : 0 ≤ v ∧ v < 120) (h74 : M 74 v = spd B s v) (hk : kk (v + 1) (up (up M 75 v (byT B s v 0)) 76 v (byT B s v 1))) : wX6_findLaws_63 Q kk v (onD B s v 2) M := by
  have ho := (onD_range (s := s) (d := v) h).1
  have hp := spd_range (s := s) (d := v) h
  unfold wX6_findLaws_63
  rw [h74]
  refine ⟨hv, inRof ⟨by omega, by omega⟩, ?_⟩
  unfold byT at hk
  by_cases c : spd B s v = 0
  · rw [if_pos c]
    rw [if_pos c, if_pos c] at hk
    unfold wX6_findLaws_89
    obtain ⟨e1, e2, -⟩ := h.2.2.2.1.1 (onD B s v 2) ho.1 (by omega)
    rw [e1, e2]
    rw [show 3 + 6 * 0 + onD B s v 2 = 3 + onD B s v 2 by omega, show 3 + 6 * 1 + onD B s v 2 = 9 + onD B s v 2 by omega] at hk
    exact ⟨⟨by omega, by omega⟩, hv, hk⟩
  · rw [if_neg c]
    rw [if_neg c, if_neg c] at hk
    unfold wX6_findLaws_89
    obtain ⟨e1, e2, -⟩ := h.2.2.2.1.2 (spd B s v / 8) (by omega) (by omega)
    rw [Int.tdiv_eq_ediv_of_nonneg hp.1, e1, e2]
    rw [show 15 + 4 * 0 + spd B s v / 8 = 15 + spd B s v / 8 by omega, show 15 + 4 * 1 + spd B s v / 8 = 19 + spd B s v / 8 by omega] at hk
    exact ⟨⟨by omega, by omega⟩, hv, hk⟩
theorem l_laws {Q : Mm → Prop} : ∀ (f : Nat) (v : Int) (M : Mm), 0 ≤ v → v ≤ 120 → 120 - v < (f : Int) → BkR M B → (∀ d, 0 ≤ d → d < 120 → M 73 d = leg B s d) → (∀ M', (∀ c : Nat, c ≠ 74 → c ≠ 75 → c ≠ 76 → M' c = M c) → (∀ d, v ≤ d → d < 120 → M' 74 d = spd B s d ∧ M' 75 d = byT B s d 0 ∧ M' 76 d = byT B s d 1) → (∀ d, d < v → M' 74 d = M 74 d ∧ M' 75 d = M 75 d ∧ M' 76 d = M 76 d) → Q M') → wX6_findLaws_2 Q f v M := by
  intro f
  induction f with
  | zero => intro v M h0 h1 h2; omega
  | succ f ih =>
    intro v M h0 h1 h2 h h73 hk
    unfold wX6_findLaws_2
    refine ⟨inRof ⟨by omega, by omega⟩, ?_⟩
    by_cases c : v < 120
    · rw [if_pos c]
      have hl := leg_facts (s := s) (d := v) h.1
      have n1 := h.1.2.1
      have h63 : wX6_findLaws_63 Q (wX6_findLaws_2 Q f) v (onD B s v 2) (up M 74 v (spd B s v)) := by
        refine fl63 (BkR_up h (by decide)) ⟨h0, c⟩ up_eq ?_
        refine ih (v + 1) _ (by omega) (by omega) (by omega) (BkR_up (BkR_up (BkR_up h (by decide)) (by decide)) (by decide)) (fun d g0 g1 => by rw [up_ne (by decide), up_ne (by decide), up_ne (by decide)]; exact h73 d g0 g1) (fun M' k1 k2 k3 => hk M' (fun c' q1 q2 q3 => by rw [k1 c' q1 q2 q3, up_cell q3, up_cell q2, up_cell q1]) (fun d g0 g1 => ?_) (fun d g => ?_))
        · by_cases q : d = v
          · subst q
            obtain ⟨f1, f2, f3⟩ := k3 d (by omega)
            rw [f1, f2, f3, up_ne (by decide), up_ne (by decide), up_eq, up_ne (by decide), up_eq, up_eq]
            exact ⟨rfl, rfl, rfl⟩
          · exact k2 d (by omega) g1
        · obtain ⟨f1, f2, f3⟩ := k3 d (by omega)
          rw [f1, f2, f3, up_ne (by decide), up_ne (by decide), up_nei (by omega), up_ne (by decide), up_nei (by omega), up_ne (by decide), up_nei (by omega), up_ne (by decide), up_ne (by decide)]
          exact ⟨rfl, rfl, rfl⟩
      rw [h73 v h0 c]
      refine ⟨⟨h0, c⟩, inRof ⟨by omega, by omega⟩, ?_⟩
      by_cases q : leg B s v = -1
      · rw [if_pos q]
        unfold wX6_findLaws_41
        refine ⟨⟨h0, c⟩, inRof ⟨by omega, by omega⟩, ?_⟩
        rw [if_pos q]
        have e1 : spd B s v = 0 := by unfold spd onD; rw [if_pos q]
        have e2 : onD B s v 2 = 0 := by unfold onD; rw [if_pos q]
        rw [e1, e2] at h63
        exact h63
      · rw [if_neg q]
        refine ⟨⟨by omega, by omega⟩, ?_⟩
        unfold wX6_findLaws_41
        refine ⟨⟨h0, c⟩, inRof ⟨by omega, by omega⟩, ?_⟩
        rw [if_neg q]
        refine ⟨⟨by omega, by omega⟩, ?_⟩
        obtain ⟨⟨-, -, e11, e12, -⟩, -⟩ := h.2.2.2.2.1 (leg B s v) (by omega) (by omega)
        have e1 : spd B s v = B (26 + 6 * leg B s v) := by unfold spd onD; rw [if_neg q, show 23 + 6 * leg B s v + 3 = 26 + 6 * leg B s v by omega]
        have e2 : onD B s v 2 = B (25 + 6 * leg B s v) := by unfold onD; rw [if_neg q, show 23 + 6 * leg B s v + 2 = 25 + 6 * leg B s v by omega]
        rw [e11, e12]
        rw [e1, e2] at h63
        exact h63
    · rw [if_neg c]
      exact hk M (fun _ _ _ _ => rfl) (fun d g0 g1 => by omega) (fun d g => ⟨rfl, rfl, rfl⟩)
theorem b_findLaws {M : Mm} (h : BkR M B) (h73 : ∀ d, 0 ≤ d → d < 120 → M 73 d = leg B s d) (hk : ∀ M', (∀ c : Nat, c ≠ 74 → c ≠ 75 → c ≠ 76 → M' c = M c) → (∀ d, 0 ≤ d → d < 120 → M' 74 d = spd B s d ∧ M' 75 d = byT B s d 0 ∧ M' 76 d = byT B s d 1) → k M') : Bv (wX6_findLaws M) k := by
  apply Bv.of; unfold wX6_findLaws
  exact ⟨121, l_laws 121 0 M (by omega) (by omega) (by omega) h h73 (fun M' k1 k2 _ => hk M' k1 k2)⟩
/-- how far Z can lie on a day; whether no law leads to it -/
def capD (B : Int → Int) (s d : Int) : Int := if left B s d = -1 then 1000 else left B s d
def cutD (B : Int → Int) (s d : Int) : Int := if left B s d = -1 then 0 else 1
theorem l_fc1 {Q : Mm → Prop} : ∀ (f : Nat) (v : Int) (M : Mm), 0 ≤ v → v ≤ 120 → 120 - v < (f : Int) → (∀ M', (∀ c : Nat, c ≠ 77 → c ≠ 78 → M' c = M c) → (∀ d, v ≤ d → d < 120 → M' 77 d = 1000 ∧ M' 78 d = 0) → (∀ d, d < v → M' 77 d = M 77 d ∧ M' 78 d = M 78 d) → ∃ n, wX6_findCleanings_32 Q n 0 M') → wX6_findCleanings_2 Q f v M := by
  intro f
  induction f with
  | zero => intro v M h0 h1 h2; omega
  | succ f ih =>
    intro v M h0 h1 h2 hk
    unfold wX6_findCleanings_2
    refine ⟨inRof ⟨by omega, by omega⟩, ?_⟩
    by_cases c : v < 120
    · rw [if_pos c]
      refine ⟨⟨h0, c⟩, ih (v + 1) _ (by omega) (by omega) (by omega) (fun M' k1 k2 k3 => hk M' (fun c' e1 e2 => ?_) (fun d g0 g1 => ?_) (fun d g => ?_))⟩
      · rw [k1 c' e1 e2, up_cell e1, up_cell e2]
      · by_cases q : d = v
        · subst q
          obtain ⟨f1, f2⟩ := k3 d (by omega)
          rw [f1, f2, up_eq, up_ne (by decide), up_eq]
          exact ⟨rfl, rfl⟩
        · exact k2 d (by omega) g1
      · obtain ⟨f1, f2⟩ := k3 d (by omega)
        rw [f1, f2, up_nei (by omega), up_ne (by decide), up_ne (by decide), up_nei (by omega)]
        exact ⟨rfl, rfl⟩
    · rw [if_neg c]
      exact hk M (fun _ _ _ => rfl) (fun d g0 g1 => by omega) (fun d g => ⟨rfl, rfl⟩)
theorem l_fc2 {Q : Mm → Prop} {N : Nat} (hsr : inR s) (h40 : N ≤ 40) (hN : B 723 = (N : Int)) : ∀ (f j : Nat) (M : Mm), j ≤ N → N - j < f → BkR M B → M 72 1 = s → (∀ d, 0 ≤ d → d < 120 → M 77 d = (if leftR B s d j = -1 then 1000 else leftR B s d j) ∧ M 78 d = (if leftR B s d j = -1 then 0 else 1)) → (∀ M', (∀ c : Nat, c ≠ 77 → c ≠ 78 → M' c = M c) → (∀ d, 0 ≤ d → d < 120 → M' 77 d = capD B s d ∧ M' 78 d = cutD B s d) → Q M') → wX6_findCleanings_32 Q f (j : Int) M := by
  intro f
  induction f with
  | zero => intro j M h1 h2; omega
  | succ f ih =>
    intro j M h1 h2 h h72 hcur hk
    have n2 := h.1.2.2.1
    have n0 := h.1.1
    unfold wX6_findCleanings_32
    rw [n2.1, hN, h72]
    refine ⟨inRof ⟨by omega, by omega⟩, inRof ⟨by omega, by omega⟩, ?_⟩
    by_cases c : (j : Int) < (N : Int)
    · rw [if_pos c]
      obtain ⟨⟨e1, e2, e3⟩, r1, r2, r3⟩ := h.2.2.2.2.2.1.1 (j : Int) (by omega) (by omega)
      rw [e1, e2, e3]
      refine ⟨⟨by omega, by omega⟩, inRof ⟨by omega, by omega⟩, hsr, ?_⟩
      have st : ∀ d, leftR B s d (j + 1) = if leftR B s d j ≠ -1 then leftR B s d j else if B (383 + 3 * (j : Int)) = s ∧ B (384 + 3 * (j : Int)) = d then B (385 + 3 * (j : Int)) else -1 := fun d => rfl
      by_cases c1 : B (383 + 3 * (j : Int)) = s
      · rw [if_pos c1]
        refine ⟨⟨r2.1, by omega⟩, ?_⟩
        refine ih (j + 1) _ (by omega) (by omega) (BkR_up (BkR_up h (by decide)) (by decide)) (by rw [up_ne (by decide), up_ne (by decide)]; exact h72) (fun d g0 g1 => ?_) (fun M' k1 k2 => hk M' (fun c' q1 q2 => by rw [k1 c' q1 q2, up_cell q1, up_cell q2]) k2)
        by_cases q : B (384 + 3 * (j : Int)) = d
        · have h0 : leftR B s d j = -1 := leftR_none j (fun i hi z => h.2.2.2.2.2.1.2 (i : Int) (j : Int) (by omega) (by omega) (by omega) ⟨z.1.trans c1.symm, z.2.trans q.symm⟩)
          have lv : leftR B s d (j + 1) = B (385 + 3 * (j : Int)) := by rw [st d, if_neg (fun z => z h0), if_pos ⟨c1, q⟩]
          rw [lv, if_neg (show ¬ B (385 + 3 * (j : Int)) = -1 by omega), if_neg (show ¬ B (385 + 3 * (j : Int)) = -1 by omega), q, up_eq, up_ne (by decide), up_eq]
          exact ⟨rfl, rfl⟩
        · have e : (if leftR B s d j ≠ -1 then leftR B s d j else if B (383 + 3 * (j : Int)) = s ∧ B (384 + 3 * (j : Int)) = d then B (385 + 3 * (j : Int)) else -1) = leftR B s d j := by
            by_cases z : leftR B s d j = -1
            · rw [if_neg (fun w => w z), if_neg (fun w => q w.2), z]
            · rw [if_pos z]
          rw [st d, e, up_nei (fun z => q z.symm), up_ne (by decide), up_ne (by decide), up_nei (fun z => q z.symm)]
          exact hcur d g0 g1
      · rw [if_neg c1]
        refine ih (j + 1) _ (by omega) (by omega) h h72 (fun d g0 g1 => ?_) hk
        rw [st d]
        have e : (if leftR B s d j ≠ -1 then leftR B s d j else if B (383 + 3 * (j : Int)) = s ∧ B (384 + 3 * (j : Int)) = d then B (385 + 3 * (j : Int)) else -1) = leftR B s d j := by
          by_cases z : leftR B s d j = -1
          · rw [if_neg (fun w => w z), if_neg (fun w => c1 w.1), z]
          · rw [if_pos z]
        rw [e]
        exact hcur d g0 g1
    · rw [if_neg c]
      rw [show j = N by omega] at hcur
      refine hk M (fun _ _ _ => rfl) (fun d g0 g1 => ?_)
      have e : left B s d = leftR B s d N := by unfold left; rw [hN]; rfl
      unfold capD cutD
      rw [e]
      exact hcur d g0 g1
theorem b_findCleanings {M : Mm} (h : BkR M B) (h72 : M 72 1 = s) (hs : inR s) (hk : ∀ M', (∀ c : Nat, c ≠ 77 → c ≠ 78 → M' c = M c) → (∀ d, 0 ≤ d → d < 120 → M' 77 d = capD B s d ∧ M' 78 d = cutD B s d) → k M') : Bv (wX6_findCleanings M) k := by
  apply Bv.of; unfold wX6_findCleanings
  have n2 := h.1.2.2.1
  obtain ⟨N, hN⟩ := Int.eq_ofNat_of_zero_le n2.2.1
  have hN' : B 723 = (N : Int) := hN
  refine ⟨121, l_fc1 121 0 M (by omega) (by omega) (by omega) (fun M1 a1 a2 _ => ⟨41, ?_⟩)⟩
  refine l_fc2 (N := N) hs (by omega) hN' 41 0 M1 (by omega) (by omega) (BkR_congr (fun c h1 h2 i _ _ => by rw [a1 c (by omega) (by omega)]) (fun _ _ _ => rfl) h) (by rw [a1 72 (by decide) (by decide)]; exact h72) (fun d g0 g1 => a2 d g0 g1) (fun M2 b1 b2 => hk M2 (fun c q1 q2 => by rw [b1 c q1 q2, a1 c q1 q2]) b2)
end Laws
