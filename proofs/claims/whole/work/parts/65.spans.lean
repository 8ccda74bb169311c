/-! ===== spans: the model ===== -/
theorem up_two {M : Mm} {x y x' y' : Int} : up (up (up (up M 102 8 x) 102 9 y) 102 8 x') 102 9 y' = up (up M 102 8 x') 102 9 y' := by
  funext c i
  by_cases hc : c = 102
  · subst hc
    by_cases h9 : i = 9
    · subst h9; rw [up_eq, up_eq]
    · rw [up_nei h9, up_nei h9]
      by_cases h8 : i = 8
      · subst h8; rw [up_eq, up_eq]
      · rw [up_nei h8, up_nei h8, up_nei h9, up_nei h8]
  · rw [up_ne hc, up_ne hc, up_ne hc, up_ne hc, up_ne hc, up_ne hc]
section Spans
variable {kv : Mm → Prop} {k : Int → Mm → Prop} {s : Int} {S : Nat} {bb : Mm}
theorem l_alone {Q : Mm → Prop} {M : Mm} {N : Nat} {d : Int} (h : BkR bb (M 103)) (hS : Lgs (M 103) s S) (hSn : S < 16777216) (hN : M 103 724 = (N : Int)) (hd : inR d) {c : Int} (hc : 0 ≤ c ∧ c ≤ 1000) (hk : Q (up (up M 102 8 (aloR (M 103) S d N)) 102 9 (ahiR (M 103) c S d N))) : ∀ (f j : Nat), j ≤ N → N - j < f → wX12_alone_34 Q d (S : Int) f (j : Int) (up (up M 102 8 (aloR (M 103) S d j)) 102 9 (ahiR (M 103) c S d j)) := by
  have n3 := h.1.2.2.2
  intro f
  induction f with
  | zero => intro j h1 h2; omega
  | succ f ih =>
    intro j h1 h2
    unfold wX12_alone_34
    refine b_many (by omega) ?_
    have e1 : up (up M 102 8 (aloR (M 103) S d j)) 102 9 (ahiR (M 103) c S d j) 103 (721 + 3) = (N : Int) := hN
    rw [e1]
    refine ⟨(inRof ⟨by omega, by omega⟩), (inRof ⟨by omega, by omega⟩), ?_⟩
    by_cases q : (j : Int) < (N : Int)
    · rw [if_pos q]
      have ih := ih (j + 1) (by omega) (by omega)
      have hb := bit01 (n := S) (j := j) (by omega) (by omega)
      obtain ⟨-, r1, r2, -⟩ := h.2.2.2.2.2.2.1 (j : Int) (by omega) (by omega)
      have st1 : aloR (M 103) S d (j + 1) = if S.testBit j = true ∧ M 103 (504 + 9 * (j : Int)) = d then max (aloR (M 103) S d j) (rd (M 103) (j : Int) 0) else aloR (M 103) S d j := rfl
      have st2 : ahiR (M 103) c S d (j + 1) = if S.testBit j = true ∧ M 103 (504 + 9 * (j : Int)) = d then min (ahiR (M 103) c S d j) (rd (M 103) (j : Int) 1) else ahiR (M 103) c S d j := rfl
      rw [st1, st2] at ih
      by_cases c1 : S.testBit j = true
      · rw [if_neg (fun z => hb.2.mp z c1)]
        refine b_logAt (x := 504 + 9 * (j : Int)) (by omega) (by omega) (by omega) ?_
        rw [up_ne (by decide), up_ne (by decide)]
        refine ⟨(inRof ⟨by omega, by omega⟩), hd, ?_⟩
        by_cases c2 : M 103 (504 + 9 * (j : Int)) = d
        · rw [if_pos c2]
          rw [if_pos ⟨c1, c2⟩, if_pos ⟨c1, c2⟩] at ih
          have hr := hS.rd h c1
          have a1 := aloR_range h hS d j
          have a2 := ahiR_range h hS d hc j
          refine b_rd (bb := bb) (by exact h) (by constructor; omega; exact (by show (j : Int) < M 103 724; omega)) (Or.inl rfl) ?_
          refine b_rd (bb := bb) (by exact h) (by constructor; omega; exact (by show (j : Int) < M 103 724; omega)) (Or.inr rfl) ?_
          rw [up_cell (show 103 ≠ 102 by decide), up_cell (show 103 ≠ 102 by decide), up_nei (show (8 : Int) ≠ 9 by decide), up_eq]
          refine ⟨(inRof ⟨by omega, by omega⟩), (inRof ⟨by omega, by omega⟩), ?_⟩
          by_cases c3 : rd (M 103) (j : Int) 0 ≤ aloR (M 103) S d j
          · rw [if_pos c3]
            rw [show max (aloR (M 103) S d j) (rd (M 103) (j : Int) 0) = aloR (M 103) S d j by omega] at ih
            unfold wX12_alone_104
            rw [up_eq]
            refine ⟨(inRof ⟨by omega, by omega⟩), (inRof ⟨by omega, by omega⟩), ?_⟩
            rw [up_two, up_two]
            by_cases c4 : rd (M 103) (j : Int) 1 < ahiR (M 103) c S d j
            · rw [if_pos c4]
              rw [show min (ahiR (M 103) c S d j) (rd (M 103) (j : Int) 1) = rd (M 103) (j : Int) 1 by omega] at ih
              exact ih
            · rw [if_neg c4]
              rw [show min (ahiR (M 103) c S d j) (rd (M 103) (j : Int) 1) = ahiR (M 103) c S d j by omega] at ih
              exact ih
          · rw [if_neg c3]
            rw [show max (aloR (M 103) S d j) (rd (M 103) (j : Int) 0) = rd (M 103) (j : Int) 0 by omega] at ih
            unfold wX12_alone_104
            rw [up_eq]
            refine ⟨(inRof ⟨by omega, by omega⟩), (inRof ⟨by omega, by omega⟩), ?_⟩
            rw [up_two, up_two]
            by_cases c4 : rd (M 103) (j : Int) 1 < ahiR (M 103) c S d j
            · rw [if_pos c4]
              rw [show min (ahiR (M 103) c S d j) (rd (M 103) (j : Int) 1) = rd (M 103) (j : Int) 1 by omega] at ih
              exact ih
            · rw [if_neg c4]
              rw [show min (ahiR (M 103) c S d j) (rd (M 103) (j : Int) 1) = ahiR (M 103) c S d j by omega] at ih
              exact ih
        · rw [if_neg c2]
          rw [if_neg (fun z => c2 z.2), if_neg (fun z => c2 z.2)] at ih
          exact ih
      · rw [if_pos (hb.2.mpr c1)]
        rw [if_neg (fun z => c1 z.1), if_neg (fun z => c1 z.1)] at ih
        exact ih
    · rw [if_neg q]
      rw [show j = N by omega]
      exact hk
theorem b_alone {M : Mm} {d : Nat} (h : BkR bb (M 103)) (hs : inR s) (hd : d < 120) (hS : Lgs (M 103) s S) (hSn : S < 16777216) (hk : kv (up (up M 102 8 (alo (M 103) S d)) 102 9 (ahi (M 103) s S d))) : Bv (wX12_alone s (d : Int) (S : Int) M) kv := by
  have n3 := h.1.2.2.2
  have hN : M 103 724 = ((M 103 724).toNat : Int) := by omega
  have hl := left_range (s := s) (d := (d : Int)) h
  have hc := cap_range (s := s) (d := (d : Int)) h
  apply Bv.of; unfold wX12_alone
  refine b_left h hs (inRof ⟨by omega, by omega⟩) ⟨(inRof ⟨by omega, by omega⟩), ?_⟩
  by_cases q : left (M 103) s (d : Int) = -1
  · rw [if_pos q]
    have e : capD (M 103) s (d : Int) = 1000 := by unfold capD; rw [if_pos q]
    have := l_alone (Q := kv) (M := M) (d := (d : Int)) h hS hSn hN (inRof ⟨by omega, by omega⟩) hc hk 25 0 (by omega) (by omega)
    rw [e] at this
    exact ⟨25, this⟩
  · rw [if_neg q]
    have e : capD (M 103) s (d : Int) = left (M 103) s (d : Int) := by unfold capD; rw [if_neg q]
    have := l_alone (Q := kv) (M := M) (d := (d : Int)) h hS hSn hN (inRof ⟨by omega, by omega⟩) hc hk 25 0 (by omega) (by omega)
    rw [e] at this
    exact ⟨25, this⟩
theorem b_meets {M : Mm} {x y p q : Int} (hx : inR x) (hy : inR y) (hp : inR p) (hq : inR q) (hk : kv (up (up M 102 8 (max p x)) 102 9 (min q y))) : Bv (wX12_meets x y (up (up M 102 8 p) 102 9 q)) kv := by
  apply Bv.of; unfold wX12_meets
  rw [up_nei (show (8 : Int) ≠ 9 by decide), up_eq]
  refine ⟨hx, hp, ?_⟩
  by_cases c : x ≤ p
  · rw [if_pos c]
    unfold wX12_meets_17
    rw [up_eq, up_two, up_two]
    refine ⟨hy, hq, ?_⟩
    rw [show max p x = p by omega] at hk
    by_cases c2 : y < q
    · rw [if_pos c2]; rw [show min q y = y by omega] at hk; exact hk
    · rw [if_neg c2]; rw [show min q y = q by omega] at hk; exact hk
  · rw [if_neg c]
    unfold wX12_meets_17
    rw [up_eq, up_two, up_two]
    refine ⟨hy, hq, ?_⟩
    rw [show max p x = x by omega] at hk
    by_cases c2 : y < q
    · rw [if_pos c2]; rw [show min q y = y by omega] at hk; exact hk
    · rw [if_neg c2]; rw [show min q y = q by omega] at hk; exact hk
/-- memory but for the model's spans -/
def FrM (M M' : Mm) : Prop := (∀ c : Nat, c ≠ 102 → c ≠ 106 → c ≠ 107 → c ≠ 108 → c ≠ 109 → M' c = M c) ∧ ∀ i, i ≠ 8 → i ≠ 9 → M' 102 i = M 102 i
theorem FrM.refl {M : Mm} : FrM M M := ⟨fun _ _ _ _ _ _ => rfl, fun _ _ _ => rfl⟩
theorem FrM.trans {M M1 M2 : Mm} (h1 : FrM M M1) (h2 : FrM M1 M2) : FrM M M2 := ⟨fun c a b d e f => (h2.1 c a b d e f).trans (h1.1 c a b d e f), fun i a b => (h2.2 i a b).trans (h1.2 i a b)⟩
theorem FrM.u8 {M : Mm} {x y : Int} : FrM M (up (up M 102 8 x) 102 9 y) := ⟨fun c a _ _ _ _ => by rw [up_cell a, up_cell a], fun i a b => by rw [up_nei b, up_nei a]⟩
theorem FrM.f {M : Mm} {d x y : Int} : FrM M (up (up M 108 d x) 109 d y) := ⟨fun c a _ _ b d => by rw [up_cell d, up_cell b], fun i a b => by rw [up_ne (by decide), up_ne (by decide)]⟩
theorem FrM.b {M : Mm} {d x y : Int} : FrM M (up (up M 106 d x) 107 d y) := ⟨fun c a b d _ _ => by rw [up_cell d, up_cell b], fun i a b => by rw [up_ne (by decide), up_ne (by decide)]⟩
theorem FrM.row {M M' : Mm} (h : FrM M M') : M' 103 = M 103 := h.1 103 (by decide) (by decide) (by decide) (by decide) (by decide)
set_option maxRecDepth 20000 in
theorem l_sp2 {Q : Int → Mm → Prop} {B : Int → Int} (h : BkR bb B) (hs : inR s) (hS : Lgs B s S) : ∀ (f v : Nat) (M : Mm), v ≤ 120 → v < f → M 103 = B → (∀ d : Nat, d < 120 → M 108 (d : Int) = sFl B s S d ∧ M 109 (d : Int) = sFh B s S d) → (∀ d : Nat, v ≤ d → d < 120 → M 106 (d : Int) = sLo B s S d ∧ M 107 (d : Int) = sHi B s S d) → (∀ M', FrM M M' → (∀ d : Nat, d < 120 → M' 106 (d : Int) = sLo B s S d ∧ M' 107 (d : Int) = sHi B s S d) → Q 1 M') → wX12_spans_111 Q s f ((v : Int) - 1) M := by
  intro f
  induction f with
  | zero => intro v M h0 h1; omega
  | succ f ih =>
    intro v M h0 h1 hB ha hb hk
    unfold wX12_spans_111
    refine ⟨(inRof ⟨by omega, by omega⟩), ?_⟩
    by_cases c : (v : Int) - 1 < 0
    · rw [if_pos c]
      exact hk M FrM.refl (fun d hd => hb d (by omega) hd)
    · rw [if_neg c]
      obtain ⟨u, hu⟩ : ∃ u : Nat, v = u + 1 := ⟨v - 1, by omega⟩
      subst hu
      rw [show ((u + 1 : Nat) : Int) - 1 = (u : Int) by omega]
      have au := ha u (by omega)
      have r1 := sFl_range h hS u
      have r2 := sFh_range h hS u
      have r5 := byT_range (s := s) (d := (u : Int)) h
      refine ⟨⟨by omega, by omega⟩, ?_⟩
      rw [au.1, au.2]
      have fin : ∀ x y : Int, x = sLo B s S u → y = sHi B s S u → wX12_spans_189 Q (wX12_spans_111 Q s f) s (u : Int) (up (up M 102 8 x) 102 9 y) := by
        intro x y hx hy
        unfold wX12_spans_189
        rw [up_nei (show (8 : Int) ≠ 9 by decide), up_eq, up_eq]
        refine ⟨⟨by omega, by omega⟩, ?_⟩
        have := ih u (up (up (up (up M 102 8 x) 102 9 y) 106 (u : Int) x) 107 (u : Int) y) (by omega) (by omega) (by exact hB) (fun d hd => by exact ha d hd) (fun d g0 g1 => ?_) (fun M' k1 k2 => hk M' ((FrM.u8.trans FrM.b).trans k1) k2)
        · exact this
        · by_cases z : d = u
          · subst z
            rw [up_ne (by decide), up_eq, up_eq]
            exact ⟨hx, hy⟩
          · rw [up_ne (by decide), up_nei (by omega), up_nei (by omega), up_ne (by decide)]
            exact hb d (by omega) g1
      by_cases c1 : (u : Int) < 119
      · rw [if_pos c1]
        have bu := hb (u + 1) (by omega) (by omega)
        have r3 := sLo_range h hS (u + 1) (by omega)
        have r4 := sHi_range h hS (u + 1) (by omega)
        have es := sLo_step (B := B) (s := s) (S := S) (d := u) (by omega)
        have et := sHi_step (B := B) (s := s) (S := S) (d := u) (by omega)
        rw [show ((u + 1 : Nat) : Int) = (u : Int) + 1 by omega] at bu
        refine b_left (bb := bb) (by rw [FrM.u8.row, hB]; exact h) hs (inRof ⟨by omega, by omega⟩) ?_
        rw [FrM.u8.row, hB]
        have hl := left_range (s := s) (d := (u : Int) + 1) h
        refine ⟨(inRof ⟨by omega, by omega⟩), ?_⟩
        by_cases q : left B s ((u : Int) + 1) = -1
        · rw [if_pos q]
          have qc : cutD B s ((u : Int) + 1) = 0 := by unfold cutD; rw [if_pos q]
          rw [if_pos qc] at es et
          refine ⟨⟨by omega, by omega⟩, ?_⟩
          refine b_byT (bb := bb) (by rw [FrM.u8.row, hB]; exact h) hs (inRof ⟨by omega, by omega⟩) (Or.inr rfl) ?_
          rw [FrM.u8.row, hB]
          refine b_byT (bb := bb) (by rw [FrM.u8.row, hB]; exact h) hs (inRof ⟨by omega, by omega⟩) (Or.inl rfl) ?_
          rw [FrM.u8.row, hB, up_ne (by decide), up_ne (by decide), up_ne (by decide), up_ne (by decide), bu.1, bu.2]
          exact b_meets (inRof ⟨by omega, by omega⟩) (inRof ⟨by omega, by omega⟩) (inRof ⟨by omega, by omega⟩) (inRof ⟨by omega, by omega⟩) (fin _ _ es.symm et.symm)
        · rw [if_neg q]
          have qc : ¬ cutD B s ((u : Int) + 1) = 0 := by unfold cutD; rw [if_neg q]; decide
          rw [if_neg qc] at es et
          exact fin _ _ es.symm et.symm
      · rw [if_neg c1]
        have e : u = 119 := by omega
        subst e
        exact fin _ _ rfl rfl
set_option maxRecDepth 20000 in
theorem l_sp1 {Q : Int → Mm → Prop} {B : Int → Int} (h : BkR bb B) (hs : inR s) (hS : Lgs B s S) (hSn : S < 16777216) : ∀ (f v : Nat) (M : Mm), v ≤ 120 → 120 - v < f → M 103 = B → (∀ d : Nat, d < v → M 108 (d : Int) = sFl B s S d ∧ M 109 (d : Int) = sFh B s S d ∧ sFl B s S d ≤ sFh B s S d) → (∀ M', FrM M M' → (sOk B s S → (∀ d : Nat, d < 120 → M' 106 (d : Int) = sLo B s S d ∧ M' 107 (d : Int) = sHi B s S d) → Q 1 M') ∧ (¬ sOk B s S → Q 0 M')) → wX12_spans_2 Q s (S : Int) f (v : Int) M := by
  intro f
  induction f with
  | zero => intro v M h0 h1; omega
  | succ f ih =>
    intro v M h0 h1 hB ha hk
    unfold wX12_spans_2
    refine ⟨(inRof ⟨by omega, by omega⟩), ?_⟩
    by_cases c : v < 120
    · rw [if_pos (show (v : Int) < 120 by omega)]
      refine b_alone (bb := bb) (by rw [hB]; exact h) hs c (by rw [hB]; exact hS) hSn ?_
      rw [hB]
      have r1 := sFl_range h hS v
      have r2 := sFh_range h hS v
      have r3 := alo_range h hS v
      have r4 := ahi_range h hS v
      have fin : ∀ x y : Int, x = sFl B s S v → y = sFh B s S v → wX12_spans_69 Q (wX12_spans_2 Q s (S : Int) f) s (S : Int) (v : Int) (up (up M 102 8 x) 102 9 y) := by
        intro x y hx hy
        unfold wX12_spans_69
        rw [up_nei (show (8 : Int) ≠ 9 by decide), up_eq, up_eq]
        refine ⟨(inRof ⟨by omega, by omega⟩), (inRof ⟨by omega, by omega⟩), ?_⟩
        by_cases q : x ≤ y
        · rw [if_pos q]
          refine ⟨⟨by omega, by omega⟩, ?_⟩
          have := ih (v + 1) (up (up (up (up M 102 8 x) 102 9 y) 108 (v : Int) x) 109 (v : Int) y) (by omega) (by omega) (by exact hB) (fun d g0 => ?_) (fun M' k1 => hk M' ((FrM.u8.trans FrM.f).trans k1))
          · exact this
          · by_cases z : d = v
            · subst z
              rw [up_ne (by decide), up_eq, up_eq]
              exact ⟨hx, hy, by omega⟩
            · rw [up_ne (by decide), up_nei (by omega), up_nei (by omega), up_ne (by decide)]
              exact ha d (by omega)
        · rw [if_neg q]
          exact (hk _ FrM.u8).2 (fun z => q (by have := z v c; rw [hx, hy]; exact this))
      by_cases c1 : (v : Int) ≤ 0
      · rw [if_pos c1]
        have e : v = 0 := by omega
        subst e
        exact fin _ _ rfl rfl
      · rw [if_neg c1]
        obtain ⟨u, hu⟩ : ∃ u : Nat, v = u + 1 := ⟨v - 1, by omega⟩
        subst hu
        have au := ha u (by omega)
        have r5 := sFl_range h hS u
        have r6 := sFh_range h hS u
        have r7 := byT_range (s := s) (d := (u : Int)) h
        have es := sFl_succ (B := B) (s := s) (S := S) u
        have et := sFh_succ (B := B) (s := s) (S := S) u
        refine b_left (bb := bb) (by rw [FrM.u8.row, hB]; exact h) hs (inRof ⟨by omega, by omega⟩) ?_
        rw [FrM.u8.row, hB]
        have hl := left_range (s := s) (d := ((u + 1 : Nat) : Int)) h
        refine ⟨(inRof ⟨by omega, by omega⟩), ?_⟩
        rw [show ((u + 1 : Nat) : Int) - 1 = (u : Int) by omega]
        rw [show ((u + 1 : Nat) : Int) = (u : Int) + 1 by omega] at hl fin ⊢
        by_cases q : left B s ((u : Int) + 1) = -1
        · rw [if_pos q]
          have qc : cutD B s ((u : Int) + 1) = 0 := by unfold cutD; rw [if_pos q]
          rw [if_pos qc] at es et
          refine ⟨⟨by omega, by omega⟩, ?_⟩
          refine b_byT (bb := bb) (by rw [FrM.u8.row, hB]; exact h) hs (inRof ⟨by omega, by omega⟩) (Or.inl rfl) ?_
          rw [FrM.u8.row, hB]
          refine b_byT (bb := bb) (by rw [FrM.u8.row, hB]; exact h) hs (inRof ⟨by omega, by omega⟩) (Or.inr rfl) ?_
          rw [FrM.u8.row, hB, up_ne (by decide), up_ne (by decide), up_ne (by decide), up_ne (by decide), au.1, au.2.1]
          exact b_meets (inRof ⟨by omega, by omega⟩) (inRof ⟨by omega, by omega⟩) (inRof ⟨by omega, by omega⟩) (inRof ⟨by omega, by omega⟩) (fin _ _ es.symm et.symm)
        · rw [if_neg q]
          have qc : ¬ cutD B s ((u : Int) + 1) = 0 := by unfold cutD; rw [if_neg q]; decide
          rw [if_neg qc] at es et
          exact fin _ _ es.symm et.symm
    · rw [if_neg (show ¬ (v : Int) < 120 by omega)]
      have ho : sOk B s S := fun d hd => (ha d (by omega)).2.2
      refine ⟨121, l_sp2 h hs hS 121 120 M (by omega) (by omega) hB (fun d hd => ⟨(ha d (by omega)).1, (ha d (by omega)).2.1⟩) (fun d g0 g1 => by omega) (fun M' k1 k2 => (hk M' k1).1 ho k2)⟩
theorem b_spans {M : Mm} {B : Int → Int} (hB : M 103 = B) (h : BkR bb B) (hs : inR s) (hS : Lgs B s S) (hSn : S < 16777216) (hk : ∀ M', FrM M M' → (sOk B s S → (∀ d : Nat, d < 120 → M' 106 (d : Int) = sLo B s S d ∧ M' 107 (d : Int) = sHi B s S d) → k 1 M') ∧ (¬ sOk B s S → k 0 M')) : Bd (wX12_spans s (S : Int) M) k := by
  apply Bd.of; unfold wX12_spans
  exact ⟨121, l_sp1 h hs hS hSn 121 0 M (by omega) (by omega) hB (fun d hd => by omega) hk⟩
end Spans
