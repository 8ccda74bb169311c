/-! ===== costs of days; the class's slope as a cost ===== -/
def onp (B : Int → Int) (S : Nat) (d : Int) (l : Nat) : Bool := S.testBit l && decide (B (504 + 9 * (l : Int)) = d)
def onS (B : Int → Int) (S : Nat) (d : Int) : Nat := bset (onp B S d) 24
def pcB (p : Nat → Bool) : Nat → Nat
  | 0 => 0
  | n + 1 => pcB p n + (if p n = true then 1 else 0)
def coR (B : Int → Int) (S : Nat) (d : Int) : Nat → Int → Int
  | 0, _ => 0
  | n + 1, z => coR B S d n z + (if onp B S d n = true then wtB B n * dst z (rd B (n : Int) 0) (rd B (n : Int) 1) else 0)
def co (B : Int → Int) (S : Nat) (d : Nat) (z : Int) : Int := coR B S (d : Int) 24 z
def Cp (B : Int → Int) (s : Int) (d : Nat) : Int := capD B s (d : Int)
def onr (B : Int → Int) (S : Nat) (a e : Int) (l : Nat) : Bool := S.testBit l && decide (a ≤ B (504 + 9 * (l : Int)) ∧ B (504 + 9 * (l : Int)) ≤ e)
def nU (B : Int → Int) (S : Nat) (a e : Int) : Nat := pcB (onr B S a e) 24
theorem pcB_le {p : Nat → Bool} : ∀ n : Nat, pcB p n ≤ n
  | 0 => Nat.le_refl _
  | n + 1 => by
    have := pcB_le (p := p) n
    show pcB p n + (if p n = true then 1 else 0) ≤ n + 1
    split <;> omega
theorem pcB_add {p q r : Nat → Bool} : ∀ n : Nat, (∀ i, i < n → (p i = true ↔ q i = true ∨ r i = true) ∧ ¬ (q i = true ∧ r i = true)) → pcB p n = pcB q n + pcB r n
  | 0, _ => rfl
  | n + 1, h => by
    have ih := pcB_add n (fun i hi => h i (by omega))
    have hn := h n (by omega)
    show pcB p n + (if p n = true then 1 else 0) = pcB q n + (if q n = true then 1 else 0) + (pcB r n + (if r n = true then 1 else 0))
    by_cases c1 : q n = true
    · rw [if_pos c1, if_neg (fun z => hn.2 ⟨c1, z⟩), if_pos (hn.1.mpr (Or.inl c1))]; omega
    · rw [if_neg c1]
      by_cases c2 : r n = true
      · rw [if_pos c2, if_pos (hn.1.mpr (Or.inr c2))]; omega
      · rw [if_neg c2, if_neg (fun z => by rcases hn.1.mp z with y | y; exact c1 y; exact c2 y)]; omega
theorem pcB_mono {p : Nat → Bool} {i : Nat} : ∀ j : Nat, i ≤ j → pcB p i ≤ pcB p j
  | 0, h => by rw [show i = 0 by omega]; exact Nat.le_refl _
  | j + 1, h => by
    by_cases e : i = j + 1
    · rw [e]; exact Nat.le_refl _
    · have := pcB_mono (p := p) j (show i ≤ j by omega)
      show pcB p i ≤ pcB p j + (if p j = true then 1 else 0)
      omega
section Cost
variable {b : Mm} {B : Int → Int} {s : Int} {S : Nat} {a e : Int}
theorem onr_iff {l : Nat} : onr B S a e l = true ↔ S.testBit l = true ∧ a ≤ B (504 + 9 * (l : Int)) ∧ B (504 + 9 * (l : Int)) ≤ e := by
  unfold onr
  rw [Bool.and_eq_true, decide_eq_true_eq]
theorem onp_iff {l : Nat} {d : Int} : onp B S d l = true ↔ S.testBit l = true ∧ B (504 + 9 * (l : Int)) = d := by
  unfold onp
  rw [Bool.and_eq_true, decide_eq_true_eq]
theorem nU_le : nU B S a e ≤ 24 := pcB_le 24
theorem nU_up (h : a ≤ e + 1) : nU B S a (e + 1) = nU B S a e + pcB (onp B S (e + 1)) 24 := pcB_add 24 (fun i _ => by
  rw [onr_iff, onr_iff, onp_iff]
  constructor
  · constructor
    · rintro ⟨h1, h2, h3⟩
      by_cases c : B (504 + 9 * (i : Int)) = e + 1
      · exact Or.inr ⟨h1, c⟩
      · exact Or.inl ⟨h1, h2, by omega⟩
    · rintro (⟨h1, h2, h3⟩ | ⟨h1, h2⟩)
      · exact ⟨h1, h2, by omega⟩
      · exact ⟨h1, by omega, by omega⟩
  · rintro ⟨⟨h1, h2, h3⟩, h4, h5⟩; omega)
theorem nU_dn (h : a ≤ e) : nU B S a e = nU B S (a + 1) e + pcB (onp B S a) 24 := pcB_add 24 (fun i _ => by
  rw [onr_iff, onr_iff, onp_iff]
  constructor
  · constructor
    · rintro ⟨h1, h2, h3⟩
      by_cases c : B (504 + 9 * (i : Int)) = a
      · exact Or.inr ⟨h1, c⟩
      · exact Or.inl ⟨h1, by omega, h3⟩
    · rintro (⟨h1, h2, h3⟩ | ⟨h1, h2⟩)
      · exact ⟨h1, by omega, h3⟩
      · exact ⟨h1, by omega, by omega⟩
  · rintro ⟨⟨h1, h2, h3⟩, h4, h5⟩; omega)
theorem nU_one : nU B S a a = pcB (onp B S a) 24 := by
  have h1 := nU_dn (B := B) (S := S) (a := a) (e := a) (Int.le_refl _)
  have h2 : nU B S (a + 1) a = 0 := by
    have : ∀ n : Nat, pcB (onr B S (a + 1) a) n = 0 := by
      intro n
      induction n with
      | zero => rfl
      | succ n ih =>
        show pcB (onr B S (a + 1) a) n + (if onr B S (a + 1) a n = true then 1 else 0) = 0
        rw [ih, if_neg (fun z => by rw [onr_iff] at z; omega)]
    exact this 24
  omega
theorem onS_lt {d : Int} : onS B S d < 16777216 := bset24 (Nat.le_refl _)
theorem onS_bit {d : Int} {i : Nat} (hi : i < 24) : (onS B S d).testBit i = true ↔ onp B S d i = true := by
  unfold onS
  rw [bset_bit]
  exact ⟨fun z => z.2, fun z => ⟨hi, z⟩⟩
theorem wt_log (h : BkR b B) (hS : Lgs B s S) {l : Nat} (hl : S.testBit l = true) : 1 ≤ wtB B l ∧ wtB B l ≤ 100 ∧ b 20 (l : Int) = wtB B l := by
  have h1 := (hS l hl).1
  obtain ⟨⟨-, -, -, -, e20, -⟩, -, -, -, -, r5, -⟩ := h.2.2.2.2.2.2.1 (l : Int) (by omega) h1
  exact ⟨r5.1, r5.2, e20⟩
theorem dst_range {z x y : Int} (hz : 0 ≤ z ∧ z ≤ 1000) (hx : 0 ≤ x ∧ x ≤ 1000) (hy : 0 ≤ y ∧ y ≤ 1000) : 0 ≤ dst z x y ∧ dst z x y ≤ 1000 := by
  unfold dst
  omega
theorem coR_range (h : BkR b B) (hS : Lgs B s S) {d z : Int} (hz : 0 ≤ z ∧ z ≤ 1000) : ∀ n : Nat, 0 ≤ coR B S d n z ∧ coR B S d n z ≤ 100000 * ((pcB (onp B S d) n : Nat) : Int)
  | 0 => ⟨Int.le_refl _, by show (0 : Int) ≤ 100000 * 0; omega⟩
  | n + 1 => by
    have ih := coR_range h hS (d := d) hz n
    show 0 ≤ coR B S d n z + (if onp B S d n = true then wtB B n * dst z (rd B (n : Int) 0) (rd B (n : Int) 1) else 0) ∧ coR B S d n z + (if onp B S d n = true then wtB B n * dst z (rd B (n : Int) 0) (rd B (n : Int) 1) else 0) ≤ 100000 * ((pcB (onp B S d) n + (if onp B S d n = true then 1 else 0) : Nat) : Int)
    by_cases c : onp B S d n = true
    · rw [if_pos c, if_pos c]
      have hb := (onp_iff.mp c).1
      have hr := hS.rd h hb
      have hw := wt_log h hS hb
      have hd := dst_range hz (x := rd B (n : Int) 0) (y := rd B (n : Int) 1) (by omega) (by omega)
      have m1 := mulb (a := wtB B n) (b := dst z (rd B (n : Int) 0) (rd B (n : Int) 1)) (A := 100) (B := 1000) (by omega) hw.2.1 (by omega) hd.2 (by omega)
      have m0 : 0 ≤ wtB B n * dst z (rd B (n : Int) 0) (rd B (n : Int) 1) := Int.mul_nonneg (by omega) hd.1
      omega
    · rw [if_neg c, if_neg c]
      omega
theorem co_range (h : BkR b B) (hS : Lgs B s S) {d : Nat} {z : Int} (hz : 0 ≤ z ∧ z ≤ 1000) : 0 ≤ co B S d z ∧ co B S d z ≤ 100000 * ((pcB (onp B S (d : Int)) 24 : Nat) : Int) := coR_range h hS hz 24
end Cost
/-- the slope holds the cost t; n logs are in it -/
def SL (M : Mm) (t : Dp) (n : Nat) : Prop := ∃ v l m P T, SR M t.1 t.2.1 v l m P T ∧ t.1 ≤ t.2.1 ∧ WS t.1 t.2.1 m P T ∧ (∀ z, t.1 ≤ z → z ≤ t.2.1 → ev t.1 v l P T m z = t.2.2 z) ∧ (-(100 * (n : Int)) ≤ l ∧ l + sm T m ≤ 100 * (n : Int)) ∧ Bal l T m (3 * n)
theorem Bal.le {l : Int} {T : Nat → Int} {m N : Nat} (h : Bal l T m N) : m ≤ N := by rcases h with h | h <;> omega
section Sls
variable {kv : Mm → Prop} {kk : Int → Mm → Prop} {A C : Mm → Prop} {t t' : Dp} {n : Nat} {M M' : Mm} {B : Int → Int} {s : Int} {S : Nat}
theorem SL.ne (h : SL M t n) : t.1 ≤ t.2.1 := by obtain ⟨v, l, m, P, T, h1, h2, -⟩ := h; exact h2
theorem SL.congr (h : SL M t n) (e1 : t'.1 = t.1) (e2 : t'.2.1 = t.2.1) (e3 : ∀ z, t.1 ≤ z → z ≤ t.2.1 → t'.2.2 z = t.2.2 z) : SL M t' n := by
  obtain ⟨v, l, m, P, T, h1, h2, h3, h4, h5, h6⟩ := h
  refine ⟨v, l, m, P, T, by rw [e1, e2]; exact h1, by rw [e1, e2]; exact h2, by rw [e1, e2]; exact h3, fun z z1 z2 => ?_, h5, h6⟩
  rw [e1] at z1 ⊢
  rw [e2] at z2
  rw [e3 z z1 z2]
  exact h4 z z1 z2
theorem SL.frame (h : SL M t n) (h1 : M' 91 = M 91) (h2 : M' 92 = M 92) (h3 : M' 93 = M 93) : SL M' t n := by
  obtain ⟨v, l, m, P, T, g1, g⟩ := h
  refine ⟨v, l, m, P, T, ?_, g⟩
  unfold SR
  rw [h1, h2, h3]
  exact g1
theorem s_begin {top x : Int} (ht : 0 ≤ top) (hk : ∀ M', FrS M M' → SL M' (0, top, fun _ => x) n → kv M') : Bv (wX9_begin 0 top x M) kv := by
  apply Bv.of; unfold wX9_begin
  refine hk _ ((((FrS.u1.trans FrS.u1).trans FrS.u1).trans FrS.u1).trans FrS.u1) ⟨x, 0, 0, fun _ => 0, fun _ => 0, ⟨⟨by rw [up_nei (by decide), up_nei (by decide), up_nei (by decide), up_nei (by decide), up_eq], by rw [up_nei (by decide), up_nei (by decide), up_nei (by decide), up_eq], by rw [up_nei (by decide), up_nei (by decide), up_eq], by rw [up_nei (by decide), up_eq], by rw [up_eq]; rfl⟩, fun i hi => by omega⟩, ht, ⟨fun i hi => by omega, fun i j _ hj => by omega⟩, fun z _ _ => ?_, ⟨by omega, by show (0 : Int) + 0 ≤ _; omega⟩, Or.inl ⟨⟨0, by omega, rfl⟩, by omega⟩⟩
  show x + 0 * (z - 0) + 0 = x
  omega
theorem s_botC (h : SL M t n) (hn : n ≤ 24) (hk : kk (lst t) M) : Bd (wX9_bottomCost M) kk := by
  obtain ⟨v, l, m, P, T, h1, h2, h3, h4, h5, h6⟩ := h
  have := h6.le
  refine b_botC h1 (by omega) h2 (by omega) h3 ?_
  rw [mnI_congr h2 h4]
  exact hk
theorem s_bot (h : SL M t n) (hn : n ≤ 24) (hk : ∀ u, Um t.1 t.2.1 t.2.2 u → kk u M) : Bd (wX9_bottom M) kk := by
  obtain ⟨v, l, m, P, T, h1, h2, h3, h4, h5, h6⟩ := h
  have := h6.le
  exact b_bot h1 (by omega) h2 (by omega) h3 (fun u hu => hk u (hu.congr h4))
theorem s_step {low high cp : Int} {d : Int} (h : SL M t n) (hn : n ≤ 24) (hb : 0 ≤ t.1 ∧ t.2.1 ≤ 1000) (hlh : -100 ≤ low ∧ low ≤ high ∧ high ≤ 100) (hcp : M 77 d = cp ∧ 0 ≤ cp ∧ cp ≤ 1000) (h1 : (stp t low high cp 0).1 ≤ (stp t low high cp 0).2.1 → ∀ M', FrS M M' → SL M' (stp t low high cp 0) n → kk 1 M') (h0 : (stp t low high cp 0).2.1 < (stp t low high cp 0).1 → ∀ M', FrS M M' → kk 0 M') : Bv (wX9_spread low high M) (fun M8 => Bd (wX9_cutTo (M8 77 d) M8) (fun r11 M12 => (r11 = 0 ∨ r11 = 1) ∧ kk r11 M12)) := by
  obtain ⟨v, l, m, P, T, g1, g2, g3, g4, g5, g6⟩ := h
  have hm := g6.le
  have win : ∀ z, max (t.1 + low) 0 ≤ z → z ≤ min (t.2.1 + high) cp → max t.1 (z - high) ≤ min t.2.1 (z - low) ∧ t.1 + low ≤ z ∧ z ≤ t.2.1 + high := by
    intro z z1 z2
    omega
  have est : stp t low high cp 0 = (max (t.1 + low) 0, min (t.2.1 + high) cp, fun z => mnI t.2.2 (max t.1 (z - high)) (min t.2.1 (z - low))) := by
    unfold stp
    rw [if_neg (by omega), if_pos rfl]
  rw [est] at h1 h0
  refine b_spread (N := 3 * n) g1 (by omega) (by omega) g2 hlh.2.1 g3 (by omega) g6 (fun M1 l1 m1 P1 T1 f1 s1 w1 b1 n1 d1 e1 => ?_)
  rw [f1 77 (by decide) (by decide) (by decide), hcp.1]
  refine b_cutTo s1 (by omega) w1 (by omega) hcp.2 b1 (fun q M2 hc => ⟨Or.inr rfl, ?_⟩) (fun q => ⟨Or.inl rfl, h0 (by show min (t.2.1 + high) cp < max (t.1 + low) 0; omega) M1 f1⟩)
  obtain ⟨v2, l2, m2, P2, T2, f2, s2, w2, b2, d2, e2⟩ := hc
  refine h1 q M2 (f1.trans f2) ⟨v2, l2, m2, P2, T2, s2, q, w2, fun z z1 z2 => ?_, ⟨by omega, by omega⟩, ?_⟩
  · have z1 : max (t.1 + low) 0 ≤ z := z1
    have z2 : z ≤ min (t.2.1 + high) cp := z2
    show ev (max (t.1 + low) 0) v2 l2 P2 T2 m2 z = mnI t.2.2 (max t.1 (z - high)) (min t.2.1 (z - low))
    rw [e2 z z1 z2, e1 z (win z z1 z2).2.1 (win z z1 z2).2.2]
    exact mnI_congr (win z z1 z2).1 (fun y y1 y2 => g4 y (Int.le_trans (Int.le_max_left _ _) y1) (Int.le_trans y2 (Int.min_le_left _ _)))
  · rcases b2 with ⟨b2, b3⟩ | b2
    · exact Or.inl ⟨b2, by omega⟩
    · exact Or.inr (by omega)
theorem s_cut {low high cp q : Int} (hq : q ≠ 0) (h : t.1 ≤ t.2.1) : stp t low high cp q = (0, cp, fun _ => lst t) := by
  unfold stp
  rw [if_neg (by omega), if_neg hq]
  rfl
theorem i_stepBack {d : Nat} (hd : d < 119) (hB : BkR M B) (hnt : Nt M B s) (h : SL M t n) (hn : n ≤ 24) (hb : 0 ≤ t.1 ∧ t.2.1 ≤ 1000) (h1 : (stp t (-Hw B s d) (-Lw B s d) (Cp B s d) (Cuts B s (d + 1))).1 ≤ (stp t (-Hw B s d) (-Lw B s d) (Cp B s d) (Cuts B s (d + 1))).2.1 → ∀ M', FrS M M' → SL M' (stp t (-Hw B s d) (-Lw B s d) (Cp B s d) (Cuts B s (d + 1))) n → C M') (h0 : (stp t (-Hw B s d) (-Lw B s d) (Cp B s d) (Cuts B s (d + 1))).2.1 < (stp t (-Hw B s d) (-Lw B s d) (Cp B s d) (Cuts B s (d + 1))).1 → ∀ M', FrS M M' → A M') : Bd (wX5_stepBack (d : Int) M) (fun r M => inR r ∧ (if r = 0 then A M else C M)) := by
  obtain ⟨-, -, e75, e76, e77, -⟩ := hnt.1.2 (d : Int) (by omega) (by omega)
  obtain ⟨-, -, -, -, -, e78⟩ := hnt.1.2 ((d : Int) + 1) (by omega) (by omega)
  have hc : cutD B s ((d : Int) + 1) = Cuts B s (d + 1) := by unfold Cuts; rw [show ((d + 1 : Nat) : Int) = (d : Int) + 1 by omega]
  have hbt := byT_range (s := s) (d := (d : Int)) hB
  have hcap := cap_range (s := s) (d := (d : Int)) hB
  have hct := cut_range (B := B) (s := s) (d := (d : Int) + 1)
  have hne := h.ne
  apply Bd.of; unfold wX5_stepBack
  rw [e78, e75, e76]
  refine ⟨⟨by omega, by omega⟩, (inRof ⟨by omega, by omega⟩), ?_⟩
  by_cases c : cutD B s ((d : Int) + 1) = 0
  · rw [if_pos c]
    rw [← hc, c] at h1 h0
    refine ⟨⟨by omega, by omega⟩, ?_⟩
    exact s_step (low := -Hw B s d) (high := -Lw B s d) (cp := Cp B s d) h hn hb (by unfold Hw Lw; omega) ⟨e77, hcap⟩ (fun q M' f e => tJ1 (h1 q M' f e)) (fun q M' f => tJ0 (h0 q M' f))
  · rw [if_neg c]
    rw [← hc, s_cut c hne] at h1
    refine ⟨⟨by omega, by omega⟩, s_botC h hn ?_⟩
    rw [e77]
    exact s_begin hcap.1 (fun M' f e => tJ1 (h1 hcap.1 M' f e))
theorem i_stepAhead {d : Nat} (hd : d < 119) (hB : BkR M B) (hnt : Nt M B s) (h : SL M t n) (hn : n ≤ 24) (hb : 0 ≤ t.1 ∧ t.2.1 ≤ 1000) (h1 : (stp t (Lw B s d) (Hw B s d) (Cp B s (d + 1)) (Cuts B s (d + 1))).1 ≤ (stp t (Lw B s d) (Hw B s d) (Cp B s (d + 1)) (Cuts B s (d + 1))).2.1 → ∀ M', FrS M M' → SL M' (stp t (Lw B s d) (Hw B s d) (Cp B s (d + 1)) (Cuts B s (d + 1))) n → C M') (h0 : (stp t (Lw B s d) (Hw B s d) (Cp B s (d + 1)) (Cuts B s (d + 1))).2.1 < (stp t (Lw B s d) (Hw B s d) (Cp B s (d + 1)) (Cuts B s (d + 1))).1 → ∀ M', FrS M M' → A M') : Bd (wX5_stepAhead ((d : Int) + 1) M) (fun r M => inR r ∧ (if r = 0 then A M else C M)) := by
  obtain ⟨-, -, e75, e76, -, -⟩ := hnt.1.2 (d : Int) (by omega) (by omega)
  obtain ⟨-, -, -, -, e77, e78⟩ := hnt.1.2 ((d : Int) + 1) (by omega) (by omega)
  have hc : cutD B s ((d : Int) + 1) = Cuts B s (d + 1) := by unfold Cuts; rw [show ((d + 1 : Nat) : Int) = (d : Int) + 1 by omega]
  have hcp : capD B s ((d : Int) + 1) = Cp B s (d + 1) := by unfold Cp; rw [show ((d + 1 : Nat) : Int) = (d : Int) + 1 by omega]
  have hbt := byT_range (s := s) (d := (d : Int)) hB
  have hcap := cap_range (s := s) (d := (d : Int) + 1) hB
  have hct := cut_range (B := B) (s := s) (d := (d : Int) + 1)
  have hne := h.ne
  apply Bd.of; unfold wX5_stepAhead
  rw [show (d : Int) + 1 - 1 = (d : Int) by omega, e78, e75, e76]
  refine ⟨⟨by omega, by omega⟩, (inRof ⟨by omega, by omega⟩), ?_⟩
  by_cases c : cutD B s ((d : Int) + 1) = 0
  · rw [if_pos c]
    rw [← hc, c] at h1 h0
    refine ⟨⟨by omega, by omega⟩, ?_⟩
    exact s_step (low := Lw B s d) (high := Hw B s d) (cp := Cp B s (d + 1)) h hn hb (by unfold Hw Lw; omega) ⟨by rw [e77, hcp], by rw [← hcp]; exact hcap⟩ (fun q M' f e => tJ1 (h1 q M' f e)) (fun q M' f => tJ0 (h0 q M' f))
  · rw [if_neg c]
    rw [← hc, s_cut c hne] at h1
    refine s_botC h hn ?_
    rw [e77, hcp]
    rw [hcp] at hcap
    exact s_begin hcap.1 (fun M' f e => tJ1 (h1 hcap.1 M' f e))
theorem FrS.book (f : FrS M M') (h : BkR M B) : BkR M' B := BkR_congr (fun c h1 h2 i _ _ => by rw [f c (by omega) (by omega) (by omega)]) (fun _ _ _ => rfl) h
theorem Nt.fr (h : ∀ c : Nat, 72 ≤ c → c ≤ 80 → M' c = M c) (hn : Nt M B s) : Nt M' B s := by
  obtain ⟨⟨n1, n2⟩, n3, n4⟩ := hn
  refine ⟨⟨?_, ?_⟩, ?_, ?_⟩
  · rw [h 72 (by decide) (by decide)]; exact n1
  · rw [h 73 (by decide) (by decide), h 74 (by decide) (by decide), h 75 (by decide) (by decide), h 76 (by decide) (by decide), h 77 (by decide) (by decide), h 78 (by decide) (by decide)]; exact n2
  · rw [h 72 (by decide) (by decide)]; exact n3
  · rw [h 79 (by decide) (by decide), h 80 (by decide) (by decide)]; exact n4
theorem FrS.net (f : FrS M M') (h : Nt M B s) : Nt M' B s := h.fr (fun c h1 h2 => f c (by omega) (by omega) (by omega))
theorem l_al12 {Q : Mm → Prop} {d : Nat} (hd : d < 120) (hS : Lgs B s S) (hb : 0 ≤ t.1 ∧ t.2.1 ≤ 1000) (hn24 : n + pcB (onp B S (d : Int)) 24 ≤ 24) : ∀ (k i : Nat) (M : Mm), i + k = 24 → BkR M B → Nt M B s → M 94 (d : Int) = (onS B S (d : Int) : Nat) → SL M (adc t (coR B S (d : Int) i)) (n + pcB (onp B S (d : Int)) i) → (∀ M', FrS M M' → SL M' (adc t (co B S d)) (n + pcB (onp B S (d : Int)) 24) → Q M') → wX5_addLogs_12 Q (d : Int) (k + 1) (i : Int) M := by
  intro k
  induction k with
  | zero =>
    intro i M hi hB hnt h94 h hk
    unfold wX5_addLogs_12
    refine ⟨(inRof ⟨by omega, by omega⟩), ?_⟩
    rw [if_neg (by omega)]
    have e : i = 24 := by omega
    subst e
    exact hk M FrS.refl h
  | succ k ih =>
    intro i M hi hB hnt h94 h hk
    unfold wX5_addLogs_12
    have ol := onS_lt (B := B) (S := S) (d := (d : Int))
    have hbt := bit01 (n := onS B S (d : Int)) (j := i) (by omega) (by omega)
    have hbi := onS_bit (B := B) (S := S) (d := (d : Int)) (show i < 24 by omega)
    refine ⟨(inRof ⟨by omega, by omega⟩), ?_⟩
    rw [if_pos (by omega), h94]
    refine ⟨⟨by omega, by omega⟩, ?_⟩
    have ec : ∀ z, coR B S (d : Int) (i + 1) z = coR B S (d : Int) i z + (if onp B S (d : Int) i = true then wtB B i * dst z (rd B (i : Int) 0) (rd B (i : Int) 1) else 0) := fun z => rfl
    have ep : pcB (onp B S (d : Int)) (i + 1) = pcB (onp B S (d : Int)) i + (if onp B S (d : Int) i = true then 1 else 0) := rfl
    by_cases c : onp B S (d : Int) i = true
    · rw [if_pos (hbt.1.mpr (hbi.mpr c))]
      rw [if_pos c] at ep
      have pm := pcB_mono (p := onp B S (d : Int)) (i := i + 1) 24 (by omega)
      obtain ⟨c1, c2⟩ := onp_iff.mp c
      obtain ⟨q1, q2, q3⟩ := hS i c1
      obtain ⟨f79, f80⟩ := hnt.2.2 (i : Int) (by omega) q1 q2
      have hr := hS.rd hB c1
      have hw := wt_log hB hS c1
      rw [f79, f80, hw.2.2]
      refine ⟨⟨by omega, by omega⟩, ?_⟩
      obtain ⟨v, l, m, P, T, g1, g2, g3, g4, g5, g6⟩ := h
      have hm := g6.le
      refine b_addMiss g1 hb g3 (by omega) g2 hr hw.1 (fun M1 v1 l1 m1 P1 T1 f1 s1 w1 n1 d1 e1 => ?_)
      refine ih (i + 1) M1 (by omega) (f1.book hB) (f1.net hnt) (by rw [f1 94 (by decide) (by decide) (by decide)]; exact h94) ⟨v1, l1, m1, P1, T1, s1, g2, w1, fun z z1 z2 => ?_, ⟨by omega, by omega⟩, Or.inr (by omega)⟩ (fun M2 f2 => hk M2 (f1.trans f2))
      show ev (adc t (coR B S (d : Int) i)).1 v1 l1 P1 T1 m1 z = t.2.2 z + coR B S (d : Int) (i + 1) z
      have g4' : ev (adc t (coR B S (d : Int) i)).1 v l P T m z = t.2.2 z + coR B S (d : Int) i z := g4 z z1 z2
      rw [e1 z z1 z2, ec z, if_pos c, g4']
      omega
    · rw [if_neg (fun z => c (hbi.mp (hbt.1.mp z)))]
      rw [if_neg c] at ep
      refine ih (i + 1) M (by omega) hB hnt h94 ?_ hk
      rw [ep]
      refine SL.congr h rfl rfl (fun z _ _ => ?_)
      show t.2.2 z + coR B S (d : Int) (i + 1) z = t.2.2 z + coR B S (d : Int) i z
      rw [ec z, if_neg c]
      omega
theorem b_addLogs {d : Nat} (hd : d < 120) (hB : BkR M B) (hnt : Nt M B s) (hS : Lgs B s S) (hb : 0 ≤ t.1 ∧ t.2.1 ≤ 1000) (hn24 : n + pcB (onp B S (d : Int)) 24 ≤ 24) (h94 : M 94 (d : Int) = (onS B S (d : Int) : Nat)) (h : SL M t n) (hk : ∀ M', FrS M M' → SL M' (adc t (co B S d)) (n + pcB (onp B S (d : Int)) 24) → kv M') : Bv (wX5_addLogs (d : Int) M) kv := by
  have ol := onS_lt (B := B) (S := S) (d := (d : Int))
  apply Bv.of; unfold wX5_addLogs
  rw [h94]
  refine ⟨⟨by omega, by omega⟩, (inRof ⟨by omega, by omega⟩), ?_⟩
  by_cases c : onS B S (d : Int) = 0
  · rw [if_pos (by omega)]
    have hz : ∀ i, i < 24 → ¬ onp B S (d : Int) i = true := fun i hi q => by
      have := (onS_bit (B := B) (S := S) (d := (d : Int)) hi).mpr q
      rw [c, Nat.zero_testBit] at this
      exact absurd this (by decide)
    have key : ∀ i, i ≤ 24 → pcB (onp B S (d : Int)) i = 0 ∧ ∀ z, coR B S (d : Int) i z = 0 := by
      intro i
      induction i with
      | zero => intro _; exact ⟨rfl, fun z => rfl⟩
      | succ i ih =>
        intro hi
        have ih := ih (by omega)
        refine ⟨?_, fun z => ?_⟩
        · show pcB (onp B S (d : Int)) i + (if onp B S (d : Int) i = true then 1 else 0) = 0
          rw [ih.1, if_neg (hz i (by omega))]
        · show coR B S (d : Int) i z + (if onp B S (d : Int) i = true then _ else 0) = 0
          rw [ih.2 z, if_neg (hz i (by omega))]; rfl
    have k24 := key 24 (Nat.le_refl _)
    refine hk M FrS.refl ?_
    rw [k24.1, Nat.add_zero]
    refine SL.congr h rfl rfl (fun z _ _ => ?_)
    show t.2.2 z + coR B S (d : Int) 24 z = t.2.2 z
    rw [k24.2 z]
    omega
  · rw [if_neg (by omega)]
    refine ⟨25, l_al12 hd hS hb hn24 24 0 M (by omega) hB hnt h94 ?_ hk⟩
    refine SL.congr h rfl rfl (fun z _ _ => ?_)
    show t.2.2 z + 0 = t.2.2 z
    omega
end Sls
