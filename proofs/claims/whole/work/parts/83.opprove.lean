/-! ===== prove ===== -/
def byt (L : List Int) : Prop := ∀ x ∈ L, 0 ≤ x ∧ x ≤ 127
theorem byt_get {L : List Int} (h : byt L) (i : Nat) : 0 ≤ L.getD i 0 ∧ L.getD i 0 ≤ 127 := by
  rw [List.getD_eq_getElem?_getD]
  cases e : L[i]? with
  | none => exact ⟨by show (0 : Int) ≤ 0; omega, by show (0 : Int) ≤ 127; omega⟩
  | some x => exact h x (List.mem_of_getElem? e)
theorem byt_app {A C : List Int} (ha : byt A) (hc : byt C) : byt (A ++ C) := fun x hx => by
  rw [List.mem_append] at hx
  rcases hx with hx | hx
  · exact ha x hx
  · exact hc x hx
theorem byt_cons {a : Int} {C : List Int} (ha : 0 ≤ a ∧ a ≤ 127) (hc : byt C) : byt (a :: C) := fun x hx => by
  rw [List.mem_cons] at hx
  rcases hx with hx | hx
  · subst hx; exact ha
  · exact hc x hx
theorem byt_nil : byt [] := fun x hx => by cases hx
theorem byt_num {l : Nat} (h : l < 24) : byt (pNum l) := by
  unfold pNum
  split
  · exact byt_cons (by omega) byt_nil
  · exact byt_cons (by omega) (byt_cons (by omega) byt_nil)
theorem byt_gpB {x fi : Nat} : ∀ n i : Nat, i + n ≤ 24 → byt (gpB x fi n i)
  | 0, _, _ => byt_cons (by omega) byt_nil
  | n + 1, i, h => by
    have ih := byt_gpB (x := x) (fi := fi) n (i + 1) (by omega)
    unfold gpB
    split
    · refine byt_app ?_ ih
      split
      · exact byt_num (by omega)
      · exact byt_cons (by omega) (byt_num (by omega))
    · exact ih
theorem byt_pGs {g : Nat → Nat} : ∀ n j fr : Nat, j + n ≤ 24 → byt (pGs g n j fr)
  | 0, _, _, _ => byt_cons (by omega) byt_nil
  | n + 1, j, fr, h => by
    have i1 := byt_pGs (g := g) n (j + 1) (sd fr (gp g fr j)) (by omega)
    have i2 := byt_pGs (g := g) n (j + 1) fr (by omega)
    unfold pGs
    split
    · split
      · exact i1
      · exact byt_app (byt_gpB _ _ (by omega)) i1
    · exact i2
theorem byt_wr {g : Nat → Nat} {wt : Nat → Int} {goal : Int} : ∀ (f O : Nat) (v : Int) (L : List Int), byt L → byt (wr g wt goal f O v L)
  | 0, _, _, _, h => h
  | f + 1, O, v, L, h => by
    unfold wr
    by_cases q : 2000 < L.length
    · rw [if_pos q]; exact h
    · rw [if_neg q]
      by_cases q2 : bz g O = -1 ∨ v + bnd wt g O ≤ goal
      · rw [if_pos q2]; exact byt_app h (byt_cons (by omega) (byt_pGs _ _ _ (by omega)))
      · rw [if_neg q2]
        have hb : bz g O ≠ -1 := fun z => q2 (Or.inl z)
        obtain ⟨l, l1, l2, l3⟩ := bz_some hb
        rw [l2, Int.toNat_natCast]
        exact byt_app (byt_wr f _ _ _ (byt_wr f _ _ _ (byt_app h (byt_cons (by omega) (byt_num l1))))) (byt_cons (by omega) byt_nil)
section Prove
variable {M : Mm} {k : Mm → Prop} {kk : Int → Mm → Prop} {a b s : Int} {B : Int → Int} {S : Nat} {bb : Mm}
theorem top_worth {g : Nat → Nat} {wt : Nat → Int} {U T T' : Nat} (h : Top g wt U T) (hT : cnd g U T') : SF wt T' ≤ SF wt T := by
  have := h.2 T' hT
  rw [SF_key, SF_key] at this
  have a1 := one_range (T := T)
  have a2 := bt_range (T := T)
  have c1 := one_range (T := T')
  have c2 := bt_range (T := T')
  omega
theorem b_writeAll {g : Nat → Nat} {wt : Nat → Int} {U : Nat} {W : Int} (hE : evn g U) (h : Gx M g wt U) (hU : M 83 4 = (U : Int)) (hW : inR W) (h1 : (wr g wt W 30 U 0 []).length ≤ 2000 → ∀ M', (∀ c : Nat, c ≠ 86 → c ≠ 87 → M' c = M c) → M' 86 2 = ((wr g wt W 30 U 0 []).length : Int) → (∀ i : Nat, i < (wr g wt W 30 U 0 []).length → M' 87 (i : Int) = (wr g wt W 30 U 0 []).getD i 0) → kk ((wr g wt W 30 U 0 []).length : Nat) M') (h0 : ¬ (wr g wt W 30 U 0 []).length ≤ 2000 → ∀ M', (∀ c : Nat, c ≠ 86 → M' c = M c) → M' 86 2 = M 86 2 → kk (-1) M') : Bd (wX8_writeAll W M) kk := by
  have pl := popc_le (n := U)
  have wl := wr_len (g := g) (wt := wt) (goal := W) 30 U 0 []
  have wl' : (wr g wt W 30 U 0 []).length ≤ 5030 := by have := wl.1; simp at this; omega
  apply Bd.of; unfold wX8_writeAll
  rw [hU]
  refine b_write (kp := false) hE hW 30 U 0 0 _ [] _ (h.fr (by rw [up_cell (by decide), up_cell (by decide), up_cell (by decide)]) (by rw [up_cell (by decide), up_cell (by decide), up_cell (by decide)])) (fun _ z => z) h.2.2 (by omega) (by omega) (by omega) (by omega) (by show 0 ≤ 6000; omega) ⟨by rw [up_nei (by decide), up_eq]; rfl, by rw [up_eq]; rfl, fun z => absurd z (by decide)⟩ (by rw [up_nei (by decide), up_nei (by decide), up_eq]) (fun M1 f1 p1 => ?_)
  rw [p1.1]
  refine ⟨(inRof ⟨by omega, by omega⟩), ?_⟩
  have c1 : ∀ c : Nat, c ≠ 86 → M1 c = M c := fun c hc => by
    by_cases e : c = 87
    · subst e; rw [f1.2.2 rfl, up_cell (by decide), up_cell (by decide), up_cell (by decide)]
    · rw [f1.1 c hc e, up_cell hc, up_cell hc, up_cell hc]
  by_cases q : (wr g wt W 30 U 0 []).length ≤ 2000
  · rw [if_pos (by omega), c1 83 (by decide), hU]
    refine b_write (kp := true) hE hW 30 U 0 0 _ [] _ (h.fr (by rw [up_cell (by decide), up_cell (by decide), c1 84 (by decide)]) (by rw [up_cell (by decide), up_cell (by decide), c1 20 (by decide)])) (fun _ z => z) h.2.2 (by omega) (by omega) (by omega) (by omega) (by show 0 ≤ 6000; omega) ⟨by rw [up_nei (by decide), up_eq]; rfl, by rw [up_eq]; rfl, fun _ i hi => absurd hi (by show ¬ i < 0; omega)⟩ (by rw [up_nei (by decide), up_nei (by decide), f1.2.1 3 (by decide), up_nei (by decide), up_nei (by decide), up_eq]) (fun M2 f2 p2 => ?_)
    rw [p2.1]
    refine h1 q _ (fun c q1 q2 => by rw [up_cell q1, f2.1 c q1 q2, up_cell q1, up_cell q1, c1 c q1]) up_eq (fun i hi => ?_)
    rw [up_ne (by decide)]
    exact p2.2.2 rfl i hi (by omega)
  · rw [if_neg (by omega)]
    exact h0 q M1 c1 (by rw [f1.2.1 2 (by decide), up_nei (by decide), up_nei (by decide), up_nei (by decide)])
theorem l_cp {Q : Int → Mm → Prop} {L : List Int} (hb : byt L) (hl : L.length ≤ 2000) : ∀ (n j : Nat) (M : Mm), j + n = L.length → M 102 18 = (L.length : Int) → (∀ i : Nat, i < L.length → M 112 (i : Int) = L.getD i 0) → (∀ i : Nat, i < j → M 111 (i : Int) = L.getD i 0) → (∀ M', (∀ c : Nat, c ≠ 111 → M' c = M c) → (∀ i : Nat, i < L.length → M' 111 (i : Int) = L.getD i 0) → Q (M' 102 17) M') → wX12_prove_67 Q (n + 1) (j : Int) M := by
  intro n
  induction n with
  | zero =>
    intro j M hj h18 h112 h111 hk
    unfold wX12_prove_67
    rw [h18]
    refine ⟨(inRof ⟨by omega, by omega⟩), (inRof ⟨by omega, by omega⟩), ?_⟩
    rw [if_neg (by omega)]
    exact hk M (fun _ _ => rfl) (fun i hi => h111 i (by omega))
  | succ n ih =>
    intro j M hj h18 h112 h111 hk
    unfold wX12_prove_67
    rw [h18]
    refine ⟨(inRof ⟨by omega, by omega⟩), (inRof ⟨by omega, by omega⟩), ?_⟩
    rw [if_pos (by omega)]
    refine ⟨⟨by omega, by omega⟩, ih (j + 1) _ (by omega) (by rw [up_ne (by decide)]; exact h18) (fun i hi => by rw [up_ne (by decide)]; exact h112 i hi) (fun i hi => ?_) (fun M' k1 k2 => hk M' (fun c hc => by rw [k1 c hc, up_cell hc]) k2)⟩
    by_cases e : i = j
    · subst e; rw [up_eq, h112 i (by omega), i2b_id (byt_get hb i)]
    · rw [up_nei (by omega)]; exact h111 i (by omega)
noncomputable def prL (B : Int → Int) (s : Int) (S T : Nat) : List Int := wr (agn B s S) (wtB B) (SF (wtB B) T) 30 (snd B s S) 0 []
theorem m_prove (hB : M 103 = B) (h : BkR bb B) (ha : inR a) (hb : inR b) (h1 : (0 ≤ a ∧ a < B 721) → (0 ≤ b ∧ b ≤ 119) → ∀ (M' : Mm) (T : Nat), T < 16777216 → Top (agn B a (cnt B a b)) (wtB B) (snd B a (cnt B a b)) T → (prL B a (cnt B a b) T).length ≤ 2000 → (∀ c : Nat, c ≠ 102 → c ≠ 106 → c ≠ 107 → c ≠ 108 → c ≠ 109 → c ≠ 110 → c ≠ 111 → c ≠ 112 → c ≠ 113 → M' c = M c) → (∀ i, i ≠ 8 → i ≠ 9 → i ≠ 11 → i ≠ 12 → i ≠ 13 → i ≠ 17 → i ≠ 18 → i ≠ 19 → i ≠ 21 → M' 102 i = M 102 i) → M' 102 17 = ((prL B a (cnt B a b) T).length : Int) → (∀ i : Nat, i < (prL B a (cnt B a b) T).length → M' 111 (i : Int) = (prL B a (cnt B a b) T).getD i 0) → kk ((prL B a (cnt B a b) T).length : Nat) M') (h2 : (0 ≤ a ∧ a < B 721) → (0 ≤ b ∧ b ≤ 119) → ∀ (M' : Mm) (T : Nat), T < 16777216 → Top (agn B a (cnt B a b)) (wtB B) (snd B a (cnt B a b)) T → ¬ (prL B a (cnt B a b) T).length ≤ 2000 → (∀ c : Nat, c ≠ 102 → c ≠ 106 → c ≠ 107 → c ≠ 108 → c ≠ 109 → c ≠ 110 → c ≠ 112 → c ≠ 113 → M' c = M c) → (∀ i, i ≠ 8 → i ≠ 9 → i ≠ 11 → i ≠ 12 → i ≠ 13 → i ≠ 18 → i ≠ 19 → i ≠ 21 → M' 102 i = M 102 i) → kk (-1) M') (h0 : ¬ ((0 ≤ a ∧ a < B 721) ∧ (0 ≤ b ∧ b ≤ 119)) → kk (-1) M) : Bd (wX12_prove a b M) kk := by
  have n0 := h.1.1
  subst hB
  apply Bd.of; unfold wX12_prove
  refine i_mShip ha (by omega) (fun c1 => ?_) (fun q => h0 (fun z => q z.1))
  refine i_mDay hb (fun c2 => ?_) (fun q => h0 (fun z => q z.2))
  have hS := cnt_lgs (s := a) h.1 b
  refine b_opening rfl h ha hb (fun M1 f1 g1 => ?_)
  have gm := mk_gm f1.row h hS g1
  refine b_best evn_agn gm (fun M2 T f2 s2 e2 hT ht => ?_)
  have hw : ∀ i, (snd (M 103) a (cnt (M 103) a b)).testBit i = true → 1 ≤ wtB (M 103) i ∧ wtB (M 103) i ≤ 100 := fun i hi => ⟨(wt_facts h hS hi).2.1, (wt_facts h hS hi).2.2.1⟩
  have wrg := W_range ht.1.1 hw
  have pl := popc_le (n := snd (M 103) a (cnt (M 103) a b))
  have wl := wr_len (g := agn (M 103) a (cnt (M 103) a b)) (wt := wtB (M 103)) (goal := SF (wtB (M 103)) T) 30 (snd (M 103) a (cnt (M 103) a b)) 0 []
  have wl' : (prL (M 103) a (cnt (M 103) a b) T).length ≤ 5030 := by have := wl.1; unfold prL; simp at this; omega
  refine b_proves (goal := SF (wtB (M 103)) T) evn_agn (inRof ⟨by omega, by omega⟩) 30 (snd (M 103) a (cnt (M 103) a b)) 0 0 _ [] _ (gm.fr (by rw [up_cell (by decide), up_cell (by decide), f2 110 (by decide)]) (by rw [up_cell (by decide), up_cell (by decide), f2 103 (by decide)])) (fun _ z => z) snd_lt (by omega) (by omega) (by omega) (by omega) (by show 0 ≤ 6000; omega) (fun T' hT' => by have := top_worth ht hT'; omega) ⟨by rw [up_eq]; rfl, fun i hi => absurd hi (by show ¬ i < 0; omega)⟩ (by rw [up_nei (by decide), up_eq]) (fun M3 f3 p3 => ?_)
  have p3 : PM M3 (prL (M 103) a (cnt (M 103) a b) T) := p3
  rw [p3.1]
  refine ⟨(inRof ⟨by omega, by omega⟩), ?_⟩
  by_cases q : (prL (M 103) a (cnt (M 103) a b) T).length ≤ 2000
  · rw [if_pos (by omega)]
    refine ⟨_, l_cp (L := prL (M 103) a (cnt (M 103) a b) T) (byt_wr _ _ _ _ byt_nil) q _ 0 _ (Nat.zero_add _) (by rw [up_nei (by decide)]; exact p3.1) (fun i hi => by rw [up_ne (by decide)]; exact p3.2 i hi (by omega)) (fun i hi => by omega) (fun M4 f4 g4 => ?_)⟩
    have e17 : M4 102 17 = ((prL (M 103) a (cnt (M 103) a b) T).length : Int) := by rw [f4 102 (by decide), up_eq]
    rw [e17]
    exact h1 c1 c2 M4 T hT ht q (fun c q1 q2 q3 q4 q5 q6 q7 q8 q9 => by rw [f4 c q7, up_cell q1, f3.1 c q1 q8 q9, up_cell q1, up_cell q1, f2 c q1, f1.1 c q1 q2 q3 q4 q5 q6]) (fun i q1 q2 q3 q4 q5 q6 q7 q8 q9 => by rw [f4 102 (by decide), up_nei q6, f3.2 i q7 q9, up_nei q7, up_nei q8, s2 i q3 q4 q5, f1.2 i q1 q2]) e17 g4
  · rw [if_neg (by omega)]
    exact h2 c1 c2 M3 T hT ht q (fun c q1 q2 q3 q4 q5 q6 q8 q9 => by rw [f3.1 c q1 q8 q9, up_cell q1, up_cell q1, f2 c q1, f1.1 c q1 q2 q3 q4 q5 q6]) (fun i q1 q2 q3 q4 q5 q7 q8 q9 => by rw [f3.2 i q7 q9, up_nei q7, up_nei q8, s2 i q3 q4 q5, f1.2 i q1 q2])
end Prove
