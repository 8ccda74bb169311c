/-! ===== right ===== -/
def wtB (B : Int → Int) (l : Nat) : Int := B (507 + 9 * (l : Int))
section Right
variable {M : Mm} {k : Mm → Prop} {kk : Int → Mm → Prop} {kv : Mm → Prop} {a b s : Int} {B : Int → Int} {S : Nat} {bb : Mm}
theorem evn_foe : evn (foe B s S) (snd B s S) := by
  refine ⟨fun x y hx hy h => ?_, fun x hx h => (snd_bit.mp hx).2.2 (foe_bit.mp h).2.2.2⟩
  have h := foe_bit.mp h
  exact foe_bit.mpr ⟨(snd_bit.mp hx).1, h.2.2.1, h.2.1, by rw [qr_symm]; exact h.2.2.2⟩
theorem evn_agn : evn (agn B s S) (snd B s S) := by
  refine ⟨fun x y hx hy h => ?_, fun x hx h => (agn_bit.mp h).1 rfl⟩
  have h := agn_bit.mp h
  exact agn_bit.mpr ⟨fun e => h.1 e.symm, h.2.2.1, h.2.1, by rw [qr_symm]; exact h.2.2.2⟩
theorem foe_iff {x y : Nat} (hx : (snd B s S).testBit x = true) (hy : (snd B s S).testBit y = true) : (foe B s S x).testBit y = true ↔ (agn B s S x).testBit y = true := by
  rw [← foe_agn hx, Nat.testBit_and, Bool.and_eq_true]
  exact ⟨fun h => ⟨h, hy⟩, fun h => h.1⟩
theorem cnd_iff {O T : Nat} (hO : subs O (snd B s S)) : cnd (foe B s S) O T ↔ cnd (agn B s S) O T := by
  constructor
  · intro h
    exact ⟨h.1, fun x y hx hy z => h.2 x y hx hy ((foe_iff (hO x (h.1 x hx)) (hO y (h.1 y hy))).mpr z)⟩
  · intro h
    exact ⟨h.1, fun x y hx hy z => h.2 x y hx hy ((foe_iff (hO x (h.1 x hx)) (hO y (h.1 y hy))).mp z)⟩
theorem top_iff {wt : Nat → Int} {T : Nat} : Top (foe B s S) wt (snd B s S) T ↔ Top (agn B s S) wt (snd B s S) T := by
  have e := fun T => cnd_iff (B := B) (s := s) (S := S) (O := snd B s S) (T := T) (fun _ z => z)
  constructor
  · intro h
    exact ⟨(e T).mp h.1, fun T' hT' => h.2 T' ((e T').mpr hT')⟩
  · intro h
    exact ⟨(e T).mpr h.1, fun T' hT' => h.2 T' ((e T').mp hT')⟩
theorem wt_facts (h : BkR bb B) (hS : Lgs B s S) {l : Nat} (hl : (snd B s S).testBit l = true) : (l : Int) < B 724 ∧ 1 ≤ wtB B l ∧ wtB B l ≤ 100 ∧ bb 20 (l : Int) = wtB B l := by
  have h1 := (hS l (snd_bit.mp hl).2.1).1
  obtain ⟨⟨-, -, -, -, e20, -⟩, -, -, -, -, r5, -⟩ := h.2.2.2.2.2.2.1 (l : Int) (by omega) h1
  exact ⟨h1, r5.1, r5.2, e20⟩
theorem Gr.gx (h : BkR M B) (hS : Lgs B s S) (hg : Gr M B s S) : Gx M (foe B s S) (wtB B) (snd B s S) := by
  refine ⟨fun x hx => ⟨hg.2.2 x hx, foe_lt⟩, fun l hl => ?_, snd_lt⟩
  have := wt_facts h hS hl
  exact ⟨this.2.2.2, this.2.1, this.2.2.1⟩
theorem mk_gm (hB : M 103 = B) (h : BkR bb B) (hS : Lgs B s S) (hg : ∀ x : Nat, x < 24 → M 110 (x : Int) = (agn B s S x : Nat)) : Gm M (agn B s S) (wtB B) (snd B s S) := by
  refine ⟨fun x hx => ⟨hg x hx, agn_lt⟩, fun l hl => ?_, snd_lt⟩
  have := wt_facts h hS hl
  rw [hB]
  exact ⟨rfl, this.2.1, this.2.2.1⟩
theorem b_choose {g : Nat → Nat} {wt : Nat → Int} {U : Nat} (hE : evn g U) (h : Gx M g wt U) (hU : M 83 4 = (U : Int)) (hk : ∀ (M' : Mm) (T : Nat), (∀ c : Nat, c ≠ 85 → M' c = M c) → M' 85 2 = (T : Int) → T < 16777216 → Top g wt U T → kv M') : Bv (wX1_choose M) kv := by
  apply Bv.of; unfold wX1_choose
  have pl := popc_le (n := U)
  rw [hU]
  refine b_search (wt := wt) hE 30 U 0 0 0 (-1) 0 _ _ (h.fr (by rw [up_cell (by decide), up_cell (by decide)]) (by rw [up_cell (by decide), up_cell (by decide)])) (fun _ z => z) h.2.2 (by decide) (by decide) (by omega) (by omega) (by omega) (by omega) (by rw [up_nei (by decide), up_eq]) up_eq (fun M' b' bs f1 g1 g2 g3 g4 r => ?_)
  rcases r with ⟨-, -, r⟩ | ⟨T, r1, r2, r3, r4, r5⟩
  · have := r 0 cnd_zero
    rw [SF_nil] at this
    omega
  · rw [Nat.zero_or] at r3
    subst r3
    refine hk M' bs (fun c hc => by rw [f1 c hc, up_cell hc, up_cell hc]) g2 g3 ⟨r1, fun T' hT' => ?_⟩
    have := r5 T' hT'
    omega
theorem W_range {wt : Nat → Int} {U T : Nat} (hT : subs T U) (hw : ∀ i, U.testBit i = true → 1 ≤ wt i ∧ wt i ≤ 100) : 0 ≤ SF wt T ∧ SF wt T ≤ 2400 := by
  have h1 := sumF_nonneg (f := wt) (T := T) 24 (fun i _ hi => by have := hw i (hT i hi); omega)
  have h2 := sumF_le (f := wt) (T := T) (C := 100) (by omega) 24 (fun i _ hi => (hw i (hT i hi)).2)
  unfold SF
  omega
theorem m_right (hB : M 103 = B) (h : BkR bb B) (ha : inR a) (hb : inR b) (h1 : (0 ≤ a ∧ a < B 721) → (0 ≤ b ∧ b ≤ 119) → ∀ (M' : Mm) (T : Nat), (∀ c : Nat, c ≠ 102 → c ≠ 106 → c ≠ 107 → c ≠ 108 → c ≠ 109 → c ≠ 110 → M' c = M c) → (∀ i, i ≠ 8 → i ≠ 9 → i ≠ 11 → i ≠ 12 → i ≠ 13 → i ≠ 14 → M' 102 i = M 102 i) → M' 102 14 = (T : Int) → T < 16777216 → Top (agn B a (cnt B a b)) (wtB B) (snd B a (cnt B a b)) T → kk (SF (wtB B) T) M') (h0 : ¬ ((0 ≤ a ∧ a < B 721) ∧ (0 ≤ b ∧ b ≤ 119)) → kk (-1) M) : Bd (wX12_right a b M) kk := by
  have n0 := h.1.1
  subst hB
  apply Bd.of; unfold wX12_right
  refine i_mShip ha (by omega) (fun c1 => ?_) (fun q => h0 (fun z => q z.1))
  refine i_mDay hb (fun c2 => ?_) (fun q => h0 (fun z => q z.2))
  refine b_opening rfl h ha hb (fun M1 f1 g1 => ?_)
  refine b_best evn_agn (mk_gm f1.row h (cnt_lgs h.1 b) g1) (fun M2 T f2 s2 e2 hT ht => ?_)
  refine h1 c1 c2 _ T (fun c q1 q2 q3 q4 q5 q6 => by rw [up_cell q1, f2 c q1, f1.1 c q1 q2 q3 q4 q5 q6]) (fun i q1 q2 q3 q4 q5 q6 => by rw [up_nei q6, s2 i q3 q4 q5, f1.2 i q1 q2]) (by rw [up_eq]; exact e2) hT ht
theorem op_right (ha : inR a) (hb : inR b) (hI : Inv M) (hk : ∀ M, Inv M → k M) : Bd (wX11_right a b M) (fun r1 M1 => Bd (wX12_right a b M1) (fun r2 M2 => inR r1 ∧ inR r2 ∧ r1 = r2 ∧ k M2)) := by
  have hB := hI.1
  have n0 := hB.1.1
  have fin : ¬ ((0 ≤ a ∧ a < M 103 721) ∧ (0 ≤ b ∧ b ≤ 119)) → Bd (wX12_right a b M) (fun r2 M2 => inR (-1) ∧ inR r2 ∧ -1 = r2 ∧ k M2) := fun q => m_right rfl hB ha hb (fun q1 q2 => absurd ⟨q1, q2⟩ q) (fun _ => ⟨(inRl (by decide)), (inRl (by decide)), rfl, hk _ hI⟩)
  apply Bd.of; unfold wX11_right
  refine i_isShip ha (by omega) (fun c1 => ?_) (fun q => fin (fun z => by omega))
  refine i_isDay hb (fun c2 => ?_) (fun q => fin (fun z => by omega))
  refine b_gload hB (by omega) hb (fun M1 k1 k2 k3 k4 => ?_)
  have hS := cnt_lgs (s := a) hB.1 b
  have gx := k4.gx k2 hS
  refine b_choose evn_foe gx k4.2.1 (fun M2 T f2 e2 hT ht => ?_)
  have hf : ∀ c : Nat, c < 72 ∨ 85 < c → M2 c = M c := fun c hc => by rw [f2 c (by omega), k1 c (by omega)]
  have hw : ∀ i, (snd (M 103) a (cnt (M 103) a b)).testBit i = true → 1 ≤ wtB (M 103) i ∧ wtB (M 103) i ≤ 100 := fun i hi => ⟨(wt_facts hB hS hi).2.1, (wt_facts hB hS hi).2.2.1⟩
  have wr := W_range ht.1.1 hw
  apply Bd.of; unfold wX1_bestWorth
  rw [up_ne (show 85 ≠ 0 by decide), up_ne (show 85 ≠ 0 by decide), e2]
  refine b_aw (g := foe (M 103) a (cnt (M 103) a b)) (wt := wtB (M 103)) (U := snd (M 103) a (cnt (M 103) a b)) (gx.fr (by rw [up_cell (by decide), up_cell (by decide), f2 84 (by decide)]) (by rw [up_cell (by decide), up_cell (by decide), f2 20 (by decide)])) ht.1.1 hT ?_
  refine m_right (B := M 103) (by rw [up_cell (by decide), up_cell (by decide)]; exact hf 103 (by omega)) hB ha hb (fun _ _ M5 T' f5 s5 e5 hT' ht' => ?_) (fun z => absurd ⟨by omega, c2⟩ z)
  have et : T' = T := top_one snd_lt ht' (top_iff.mp ht) (fun i hi => by have := hw i hi; omega)
  subst et
  refine ⟨(inRof ⟨by omega, by omega⟩), (inRof ⟨by omega, by omega⟩), rfl, hk _ ?_⟩
  have hc : ∀ c : Nat, c ≠ 0 → c < 72 ∨ 85 < c → c ≠ 102 → c ≠ 106 → c ≠ 107 → c ≠ 108 → c ≠ 109 → c ≠ 110 → M5 c = M c := fun c q0 q q1 q2 q3 q4 q5 q6 => by rw [f5 c q1 q2 q3 q4 q5 q6, up_cell q0, up_cell q0, hf c q]
  have h102 : ∀ i, i ≠ 8 → i ≠ 9 → i ≠ 11 → i ≠ 12 → i ≠ 13 → i ≠ 14 → M5 102 i = M 102 i := fun i q1 q2 q3 q4 q5 q6 => by rw [s5 i q1 q2 q3 q4 q5 q6, up_ne (by decide), up_ne (by decide), hf 102 (by omega)]
  have h0 : ∀ i, i ≠ 11 → i ≠ 12 → M5 0 i = M 0 i := fun i q1 q2 => by rw [f5 0 (by decide) (by decide) (by decide) (by decide) (by decide) (by decide), up_nei q2, up_nei q1, hf 0 (by omega)]
  have hJ := hI
  obtain ⟨-, -, -, -, i5, i6, i7, i8, i9, i10, i11⟩ := hJ
  refine hI.rest (fun c g0 g1 => hc c (by omega) (by omega) (by omega) (by omega) (by omega) (by omega) (by omega) (by omega)) (hc 103 (by decide) (by decide) (by decide) (by decide) (by decide) (by decide) (by decide) (by decide)) (hc 104 (by decide) (by decide) (by decide) (by decide) (by decide) (by decide) (by decide) (by decide)) (hc 105 (by decide) (by decide) (by decide) (by decide) (by decide) (by decide) (by decide) (by decide)) ?_ ?_ ?_ ?_ ?_ ?_ ?_
  · rw [h0 10 (by decide) (by decide), h102 0 (by decide) (by decide) (by decide) (by decide) (by decide) (by decide)]; exact i5
  · rw [e5, f5 0 (by decide) (by decide) (by decide) (by decide) (by decide) (by decide), up_nei (by decide), up_eq, up_eq]
    exact Or.inr ⟨rfl, rfl, by omega, by omega⟩
  · rw [hc 86 (by decide) (by decide) (by decide) (by decide) (by decide) (by decide) (by decide) (by decide), hc 87 (by decide) (by decide) (by decide) (by decide) (by decide) (by decide) (by decide) (by decide), h102 17 (by decide) (by decide) (by decide) (by decide) (by decide) (by decide), hc 111 (by decide) (by decide) (by decide) (by decide) (by decide) (by decide) (by decide) (by decide)]; exact i7
  · rw [hc 88 (by decide) (by decide) (by decide) (by decide) (by decide) (by decide) (by decide) (by decide), hc 89 (by decide) (by decide) (by decide) (by decide) (by decide) (by decide) (by decide) (by decide), h102 25 (by decide) (by decide) (by decide) (by decide) (by decide) (by decide), h102 29 (by decide) (by decide) (by decide) (by decide) (by decide) (by decide), hc 114 (by decide) (by decide) (by decide) (by decide) (by decide) (by decide) (by decide) (by decide)]; exact i8
  · rw [hc 90 (by decide) (by decide) (by decide) (by decide) (by decide) (by decide) (by decide) (by decide), hc 98 (by decide) (by decide) (by decide) (by decide) (by decide) (by decide) (by decide) (by decide), h102 38 (by decide) (by decide) (by decide) (by decide) (by decide) (by decide), hc 122 (by decide) (by decide) (by decide) (by decide) (by decide) (by decide) (by decide) (by decide)]; exact i9
  · rw [hc 90 (by decide) (by decide) (by decide) (by decide) (by decide) (by decide) (by decide) (by decide), hc 99 (by decide) (by decide) (by decide) (by decide) (by decide) (by decide) (by decide) (by decide), h102 41 (by decide) (by decide) (by decide) (by decide) (by decide) (by decide), hc 124 (by decide) (by decide) (by decide) (by decide) (by decide) (by decide) (by decide) (by decide)]; exact i10
  · rw [hc 100 (by decide) (by decide) (by decide) (by decide) (by decide) (by decide) (by decide) (by decide), hc 101 (by decide) (by decide) (by decide) (by decide) (by decide) (by decide) (by decide) (by decide), h102 47 (by decide) (by decide) (by decide) (by decide) (by decide) (by decide), hc 125 (by decide) (by decide) (by decide) (by decide) (by decide) (by decide) (by decide) (by decide)]; exact i11
end Right
