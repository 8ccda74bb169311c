/-! ===== what a log is read as; which logs count (the model) ===== -/
def rdW (B : Int → Int) (l : Int) : Int := prt B (B (503 + 9 * l)) (B (504 + 9 * l)) 0 0 + prt B (B (503 + 9 * l)) (B (504 + 9 * l)) 0 1 + prt B (B (503 + 9 * l)) (B (504 + 9 * l)) 0 2
def rdS (B : Int → Int) (l : Int) : Int := spd B (B (503 + 9 * l)) (B (504 + 9 * l))
def rdlo (B : Int → Int) (l : Int) : Int := max (-((rdW B l - 100 * (B (505 + 9 * l) - B (506 + 9 * l))) / (rdS B l * rdS B l))) 0
def rdhi (B : Int → Int) (l : Int) : Int := min ((100 * (B (505 + 9 * l) + B (506 + 9 * l)) + 99 - rdW B l) / (rdS B l * rdS B l)) 1000
/-- the least (w = 0), the greatest (w = 1) Z that log l is read as; -1 if there is none -/
def rd (B : Int → Int) (l w : Int) : Int := if B (509 + 9 * l) = 1 then (if B (505 + 9 * l) ≤ B (506 + 9 * l) then B (505 + 9 * l + w) else -1) else if rdS B l = 0 then -1 else if rdlo B l ≤ rdhi B l then (if w = 1 then rdhi B l else rdlo B l) else -1
theorem rd_in {wo a z T U : Int} (ha : 0 < a) : (T ≤ (wo + a * z) / 100 ∧ (wo + a * z) / 100 ≤ U) ↔ (-((wo - 100 * T) / a) ≤ z ∧ z ≤ (100 * U + 99 - wo) / a) := by
  have h1 : -z ≤ (wo - 100 * T) / a ↔ -z * a ≤ wo - 100 * T := Int.le_ediv_iff_mul_le ha
  have h2 : z ≤ (100 * U + 99 - wo) / a ↔ z * a ≤ 100 * U + 99 - wo := Int.le_ediv_iff_mul_le ha
  rw [Int.neg_mul] at h1
  rw [Int.mul_comm z a] at h1 h2
  generalize a * z = t at *
  constructor
  · intro h
    exact ⟨by have := h1.mpr (by omega); omega, h2.mpr (by omega)⟩
  · intro h
    have q1 := h1.mp (by omega)
    have q2 := h2.mp h.2
    omega
section Rd
variable {b : Mm} {B : Int → Int} {l : Int}
theorem ful_form {s d z : Int} : ful B s d z = (prt B s d 0 0 + prt B s d 0 1 + prt B s d 0 2 + spd B s d * spd B s d * z) / 100 := by
  unfold ful
  have e3 : prt B s d z 3 = spd B s d * spd B s d * z := by unfold prt; rw [if_neg (by decide), if_neg (by decide), if_neg (by decide)]
  rw [e3]
  rfl
theorem rdS_range (h : BkR b B) : 0 ≤ rdS B l ∧ rdS B l ≤ 30 := spd_range h
theorem rd_range (h : BkR b B) (hl : 0 ≤ l ∧ l < B 724) : (rd B l 0 = -1 ∧ rd B l 1 = -1) ∨ (0 ≤ rd B l 0 ∧ rd B l 0 ≤ rd B l 1 ∧ rd B l 1 ≤ 1000) := by
  obtain ⟨-, r1, r2, r3, r4, -⟩ := h.2.2.2.2.2.2.1 l hl.1 hl.2
  unfold rd
  by_cases c : B (509 + 9 * l) = 1
  · rw [if_pos c, if_pos c]
    by_cases c2 : B (505 + 9 * l) ≤ B (506 + 9 * l)
    · rw [if_pos c2, if_pos c2, show 505 + 9 * l + 0 = 505 + 9 * l by omega, show 505 + 9 * l + 1 = 506 + 9 * l by omega]
      exact Or.inr ⟨r3.1, c2, r4.2⟩
    · rw [if_neg c2, if_neg c2]; exact Or.inl ⟨rfl, rfl⟩
  · rw [if_neg c, if_neg c]
    by_cases c2 : rdS B l = 0
    · rw [if_pos c2, if_pos c2]; exact Or.inl ⟨rfl, rfl⟩
    · rw [if_neg c2, if_neg c2]
      by_cases c3 : rdlo B l ≤ rdhi B l
      · rw [if_pos c3, if_pos c3, if_neg (by decide), if_pos rfl]
        refine Or.inr ⟨?_, c3, ?_⟩
        · unfold rdlo; omega
        · unfold rdhi; omega
      · rw [if_neg c3, if_neg c3]; exact Or.inl ⟨rfl, rfl⟩
end Rd
section Rd2
variable {M : Mm} {k : Int → Mm → Prop} {l w : Int} {bb : Mm}
def fnd (lo hi w v : Int) : Int := if lo ≤ hi ∧ lo < v then (if w = 1 then min hi (v - 1) else lo) else -1
theorem l_rd {Q : Int → Mm → Prop} (h : BkR bb (M 103)) (hl : 0 ≤ l ∧ l < M 103 724) (hw : w = 0 ∨ w = 1) (hs : rdS (M 103) l ≠ 0) (hk : Q (fnd (rdlo (M 103) l) (rdhi (M 103) l) w 1001) M) : ∀ (f : Nat) (v : Int), 0 ≤ v → v ≤ 1001 → 1001 - v < (f : Int) → wX12_readAs_65 Q l w f (fnd (rdlo (M 103) l) (rdhi (M 103) l) w v) v M := by
  obtain ⟨-, r1, r2, r3, r4, -⟩ := h.2.2.2.2.2.2.1 l hl.1 hl.2
  have n0 := h.1.1
  have n3 := h.1.2.2.2
  have hS := rdS_range (l := l) h
  have hpos : 0 < rdS (M 103) l * rdS (M 103) l := Int.mul_pos (by omega) (by omega)
  have hlo : 0 ≤ rdlo (M 103) l := by unfold rdlo; omega
  have hhi : rdhi (M 103) l ≤ 1000 := by unfold rdhi; omega
  intro f
  induction f with
  | zero => intro v h0 h1 h2; omega
  | succ f ih =>
    intro v h0 h1 h2
    unfold wX12_readAs_65
    refine ⟨inRof ⟨by omega, by omega⟩, ?_⟩
    by_cases c : v ≤ 1000
    · rw [if_pos c]
      have ih := ih (v + 1) (by omega) (by omega) (by omega)
      have hin : (M 103 (505 + 9 * l) - M 103 (506 + 9 * l) ≤ ful (M 103) (M 103 (503 + 9 * l)) (M 103 (504 + 9 * l)) v ∧ ful (M 103) (M 103 (503 + 9 * l)) (M 103 (504 + 9 * l)) v ≤ M 103 (505 + 9 * l) + M 103 (506 + 9 * l)) ↔ (rdlo (M 103) l ≤ v ∧ v ≤ rdhi (M 103) l) := by
        rw [ful_form]
        have := rd_in (wo := rdW (M 103) l) (a := rdS (M 103) l * rdS (M 103) l) (z := v) (T := M 103 (505 + 9 * l) - M 103 (506 + 9 * l)) (U := M 103 (505 + 9 * l) + M 103 (506 + 9 * l)) hpos
        refine Iff.trans this ?_
        unfold rdlo rdhi
        omega
      have hp := prt_range (d := M 103 (504 + 9 * l)) h r1 (show 0 ≤ v ∧ v ≤ 1000 by omega)
      have hf : inR (ful (M 103) (M 103 (503 + 9 * l)) (M 103 (504 + 9 * l)) v) := by unfold ful; exact inRof ⟨by omega, by omega⟩
      refine b_logAt (x := 503 + 9 * l) (by omega) (by omega) (by omega) ?_
      refine b_logAt (x := 504 + 9 * l) (by omega) (by omega) (by omega) ?_
      refine b_ful h r1 (inRof ⟨by omega, by omega⟩) (by omega) ?_
      refine b_logAt (x := 505 + 9 * l) (by omega) (by omega) (by omega) ?_
      refine b_logAt (x := 506 + 9 * l) (by omega) (by omega) (by omega) ?_
      refine b_logAt (x := 505 + 9 * l) (by omega) (by omega) (by omega) ?_
      refine b_logAt (x := 506 + 9 * l) (by omega) (by omega) (by omega) ?_
      refine b_in hf (inRof ⟨by omega, by omega⟩) (inRof ⟨by omega, by omega⟩) (fun q => ⟨inR1, ?_⟩) (fun q => ⟨inR0, ?_⟩)
      · have q := hin.mp q
        rw [if_neg (by decide)]
        refine ⟨inRof ⟨by omega, by omega⟩, ?_⟩
        by_cases c1 : w = 1
        · rw [if_pos c1]
          have e : fnd (rdlo (M 103) l) (rdhi (M 103) l) w (v + 1) = v := by
            unfold fnd
            rw [if_pos (by omega), if_pos c1]
            omega
          rw [e] at ih
          exact ih
        · rw [if_neg c1]
          have e : fnd (rdlo (M 103) l) (rdhi (M 103) l) w (v + 1) = rdlo (M 103) l := by
            unfold fnd
            rw [if_pos (by omega), if_neg c1]
          rw [e] at ih
          by_cases c2 : rdlo (M 103) l < v
          · have e2 : fnd (rdlo (M 103) l) (rdhi (M 103) l) w v = rdlo (M 103) l := by
              unfold fnd
              rw [if_pos (by omega), if_neg c1]
            rw [e2]
            refine ⟨inRof ⟨by omega, by omega⟩, ?_⟩
            rw [if_neg (by omega)]
            exact ih
          · have e2 : fnd (rdlo (M 103) l) (rdhi (M 103) l) w v = -1 := by
              unfold fnd
              rw [if_neg (by omega)]
            rw [e2]
            refine ⟨inRof ⟨by omega, by omega⟩, ?_⟩
            rw [if_pos rfl]
            rw [show rdlo (M 103) l = v by omega] at ih
            exact ih
      · have q : ¬ (rdlo (M 103) l ≤ v ∧ v ≤ rdhi (M 103) l) := fun z => q (hin.mpr z)
        rw [if_pos rfl]
        have e : fnd (rdlo (M 103) l) (rdhi (M 103) l) w (v + 1) = fnd (rdlo (M 103) l) (rdhi (M 103) l) w v := by
          unfold fnd
          by_cases c1 : rdlo (M 103) l ≤ rdhi (M 103) l ∧ rdlo (M 103) l < v
          · rw [if_pos c1, if_pos (by omega)]
            by_cases c2 : w = 1
            · rw [if_pos c2, if_pos c2]; omega
            · rw [if_neg c2, if_neg c2]
          · rw [if_neg c1, if_neg (by omega)]
        rw [e] at ih
        exact ih
    · rw [if_neg c]
      rw [show v = 1001 by omega]
      exact hk
theorem b_rd (h : BkR bb (M 103)) (hl : 0 ≤ l ∧ l < M 103 724) (hw : w = 0 ∨ w = 1) (hk : k (rd (M 103) l w) M) : Bd (wX12_readAs l w M) k := by
  obtain ⟨-, r1, r2, r3, r4, r5, r6, r7, r8⟩ := h.2.2.2.2.2.2.1 l hl.1 hl.2
  have n0 := h.1.1
  have n3 := h.1.2.2.2
  have hS := rdS_range (l := l) h
  apply Bd.of; unfold wX12_readAs
  unfold rd at hk
  refine b_logAt (x := 509 + 9 * l) (by omega) (by omega) (by omega) ⟨inRof ⟨by omega, by omega⟩, ?_⟩
  by_cases c : M 103 (509 + 9 * l) = 1
  · rw [if_pos c]; rw [if_pos c] at hk
    refine b_logAt (x := 505 + 9 * l) (by omega) (by omega) (by omega) ?_
    refine b_logAt (x := 506 + 9 * l) (by omega) (by omega) (by omega) ⟨inRof ⟨by omega, by omega⟩, inRof ⟨by omega, by omega⟩, ?_⟩
    by_cases c2 : M 103 (505 + 9 * l) ≤ M 103 (506 + 9 * l)
    · rw [if_pos c2]; rw [if_pos c2] at hk
      exact b_logAt (x := 505 + 9 * l + w) (by omega) (by omega) (by omega) hk
    · rw [if_neg c2]; rw [if_neg c2] at hk
      exact hk
  · rw [if_neg c]; rw [if_neg c] at hk
    refine b_logAt (x := 503 + 9 * l) (by omega) (by omega) (by omega) ?_
    refine b_logAt (x := 504 + 9 * l) (by omega) (by omega) (by omega) ?_
    refine b_spd h (inRof ⟨by omega, by omega⟩) (inRof ⟨by omega, by omega⟩) ?_
    show inR (rdS (M 103) l) ∧ (if rdS (M 103) l = 0 then _ else _)
    refine ⟨inRof ⟨by omega, by omega⟩, ?_⟩
    by_cases c2 : rdS (M 103) l = 0
    · rw [if_pos c2]; rw [if_pos c2] at hk
      exact hk
    · rw [if_neg c2]; rw [if_neg c2] at hk
      have hhi : rdhi (M 103) l ≤ 1000 := by unfold rdhi; omega
      have hlo : 0 ≤ rdlo (M 103) l := by unfold rdlo; omega
      have := l_rd (Q := k) h hl hw c2 (by
        unfold fnd
        by_cases c3 : rdlo (M 103) l ≤ rdhi (M 103) l
        · rw [if_pos (by omega)]
          rw [if_pos c3] at hk
          by_cases c4 : w = 1
          · rw [if_pos c4]; rw [if_pos c4] at hk
            rw [show min (rdhi (M 103) l) (1001 - 1) = rdhi (M 103) l by omega]
            exact hk
          · rw [if_neg c4]; rw [if_neg c4] at hk
            exact hk
        · rw [if_neg (by omega)]
          rw [if_neg c3] at hk
          exact hk) 1002 0 (by omega) (by omega) (by omega)
      have e : fnd (rdlo (M 103) l) (rdhi (M 103) l) w 0 = -1 := by unfold fnd; rw [if_neg (by omega)]
      rw [e] at this
      exact ⟨1002, this⟩
end Rd2
