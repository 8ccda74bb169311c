/-! ===== the class's sweeps, and its least miss ===== -/
def SBp (M : Mm) (B : Int → Int) (s : Int) (S : Nat) : Prop := (∀ e : Nat, e < 120 → M 97 (e : Int) = zvd (bwB B s S (119 - e))) ∧ ((bwB B s S 119).1 ≤ (bwB B s S 119).2.1 → ∀ e : Nat, e < 120 → Um (bwB B s S (119 - e)).1 (bwB B s S (119 - e)).2.1 (bwB B s S (119 - e)).2.2 (M 95 (e : Int)))
def cvR (L H ct : Nat → Int) (bt : Nat → Int) : Nat → Int
  | 0 => bt 0
  | d + 1 => if ct (d + 1) = 0 then min (max (bt (d + 1)) (cvR L H ct bt d + L d)) (cvR L H ct bt d + H d) else bt (d + 1)
theorem cvR_succ {L H ct bt : Nat → Int} {d : Nat} : cvR L H ct bt (d + 1) = if ct (d + 1) = 0 then min (max (bt (d + 1)) (cvR L H ct bt d + L d)) (cvR L H ct bt d + H d) else bt (d + 1) := rfl
section Sw2
variable {kv : Mm → Prop} {kk : Int → Mm → Prop} {A : Mm → Prop} {t : Dp} {n : Nat} {M M' bb : Mm} {B : Int → Int} {s : Int} {S : Nat}
theorem FrK.ctx (f : FrK M M') (h : Ctx M B s S) : Ctx M' B s S := h.fr (fun c hc => f c (by omega) (by omega) (by omega) (by omega) (by omega))
theorem bw_step {d : Nat} (hd : d < 119) : bwB B s S (119 - d) = adc (stp (bwB B s S (118 - d)) (-Hw B s d) (-Lw B s d) (Cp B s d) (Cuts B s (d + 1))) (co B S d) := by
  have e : 119 - d = (118 - d) + 1 := by omega
  rw [e]
  show adc (stp (bwB B s S (118 - d)) (-Hw B s (118 - (118 - d))) (-Lw B s (118 - (118 - d))) (Cp B s (118 - (118 - d))) (Cuts B s (118 - (118 - d) + 1))) (co B S (118 - (118 - d))) = _
  rw [show 118 - (118 - d) = d by omega]
theorem l_sbd {Q : Int → Mm → Prop} {f d : Nat} (hd : d < 119) (hS : Lgs B s S) (hc : Ctx M B s S) (h : SL M (bwB B s S (118 - d)) (nUn B S (d + 1) 119)) (hf : SBf M B s S (d + 1)) (hk0 : (bwB B s S (119 - d)).2.1 < (bwB B s S (119 - d)).1 → ∀ M', FrK M M' → SBf M' B s S (d + 1) → Q 100000000 M') (hk : ∀ M', FrK M M' → Ctx M' B s S → SL M' (bwB B s S (119 - d)) (nUn B S d 119) → SBf M' B s S d → wX5_sweepBack_44 Q f ((d : Int) + -1) M') : wX5_sweepBack_44 Q (f + 1) (d : Int) M := by
  have hbn := bw_bnd hc.1 hS (118 - d) (by omega)
  have hl := LH (s := s) hc.1 d
  have hst := hbn.st (low := -Hw B s d) (high := -Lw B s d) (cp := Cp B s d) (q := Cuts B s (d + 1)) (by omega) (cap_range hc.1).2
  have nu := nUn_dn (B := B) (S := S) (a := d) (e := 119) (by omega)
  have nl := nUn_le (B := B) (S := S) (a := d) (e := 119)
  have nl2 := nUn_le (B := B) (S := S) (a := d + 1) (e := 119)
  have ebw := bw_step (B := B) (s := s) (S := S) hd
  unfold wX5_sweepBack_44
  refine ⟨(inRof ⟨by omega, by omega⟩), ?_⟩
  rw [if_neg (by omega), if_pos (by omega)]
  refine i_stepBack hd hc.1 hc.2.1 h nl2 ⟨hbn.1, hbn.2.1⟩ (fun q M1 f1 h1 => ?_) (fun q M1 f1 => hk0 (by rw [ebw]; exact q) M1 f1.toK (f1.sbf hf))
  refine l_sb65 (by omega) hS (f1.ctx hc) ⟨hst.1, hst.2.1⟩ h1 (by omega) ⟨by rw [ebw]; rfl, by rw [ebw]; rfl, fun z _ _ => by rw [ebw]⟩ (f1.sbf hf) (fun M2 f2 h2 hf2 => ?_)
  have f12 := f1.toK.trans f2
  refine hk M2 f12 (f12.ctx hc) ?_ hf2
  rw [nu]
  exact h2
theorem SBf.abort {d : Nat} (hd : d < 119) (h : SBf M B s S (d + 1)) (he : (bwB B s S (119 - d)).2.1 < (bwB B s S (119 - d)).1) : SBp M B s S ∧ avd (bwB B s S 119) = 100000000 := by
  have em : ∀ e, e ≤ d → (bwB B s S (119 - e)).2.1 < (bwB B s S (119 - e)).1 := fun e hed => by
    have := bw_empty he (d - e)
    rw [show 119 - d + (d - e) = 119 - e by omega] at this
    exact this
  have e0 := em 0 (by omega)
  rw [Nat.sub_zero] at e0
  refine ⟨⟨fun e he' => ?_, fun z => by omega⟩, by unfold avd; rw [if_pos e0]⟩
  by_cases q : e ≤ d
  · rw [h.2 e (by omega), zvd_empty (em e q)]
  · exact (h.1 e (by omega) he').2
theorem l_sb44 {Q : Int → Mm → Prop} (hS : Lgs B s S) : ∀ (d : Nat) (M : Mm), d < 119 → Ctx M B s S → SL M (bwB B s S (118 - d)) (nUn B S (d + 1) 119) → SBf M B s S (d + 1) → (∀ M', FrK M M' → SBp M' B s S → Q (avd (bwB B s S 119)) M') → wX5_sweepBack_44 Q (d + 2) (d : Int) M := by
  intro d
  induction d with
  | zero =>
    intro M hd hc h hf hk
    refine l_sbd hd hS hc h hf (fun he M1 f1 hf1 => ?_) (fun M1 f1 hc1 h1 hf1 => ?_)
    · obtain ⟨a1, a2⟩ := hf1.abort hd he
      rw [← a2]
      exact hk M1 f1 a1
    · unfold wX5_sweepBack_44
      refine ⟨(inRl (by decide)), ?_⟩
      rw [if_pos (by decide)]
      have nl := nUn_le (B := B) (S := S) (a := 0) (e := 119)
      refine s_botC h1 nl ?_
      have ne := h1.ne
      have ea : lst (bwB B s S (119 - 0)) = avd (bwB B s S 119) := by
        unfold avd
        rw [if_neg (by have ne : (bwB B s S 119).1 ≤ (bwB B s S 119).2.1 := ne; omega)]
      rw [ea]
      exact hk M1 f1 ⟨fun e he => (hf1.1 e (by omega) he).2, fun _ e he => (hf1.1 e (by omega) he).1⟩
  | succ d ih =>
    intro M hd hc h hf hk
    refine l_sbd hd hS hc h hf (fun he M1 f1 hf1 => ?_) (fun M1 f1 hc1 h1 hf1 => ?_)
    · obtain ⟨a1, a2⟩ := hf1.abort hd he
      rw [← a2]
      exact hk M1 f1 a1
    · rw [show ((d + 1 : Nat) : Int) + -1 = (d : Int) by omega]
      refine ih M1 (by omega) hc1 ?_ hf1 (fun M2 f2 => hk M2 (f1.trans f2))
      rw [show 118 - d = 119 - (d + 1) by omega]
      exact h1
theorem l_sb2 {Q : Int → Mm → Prop} : ∀ (k i : Nat) (M : Mm), i + k = 120 → (∀ e : Nat, e < i → M 97 (e : Int) = 100000000) → (∀ M', FrK M M' → (∀ e : Nat, e < 120 → M' 97 (e : Int) = 100000000) → wX5_sweepBack_22 Q M') → wX5_sweepBack_2 Q (k + 1) (i : Int) M := by
  intro k
  induction k with
  | zero =>
    intro i M hi h hk
    unfold wX5_sweepBack_2
    refine ⟨(inRof ⟨by omega, by omega⟩), ?_⟩
    rw [if_neg (by omega)]
    exact hk M FrK.refl (fun e he => h e (by omega))
  | succ k ih =>
    intro i M hi h hk
    unfold wX5_sweepBack_2
    refine ⟨(inRof ⟨by omega, by omega⟩), ?_⟩
    rw [if_pos (by omega)]
    refine ⟨⟨by omega, by omega⟩, ih (i + 1) _ (by omega) (fun e he => ?_) (fun M' k1 k2 => hk M' (fun c a1 a2 a3 a4 a5 => by rw [k1 c a1 a2 a3 a4 a5, up_cell a5]) k2)⟩
    by_cases q : e = i
    · rw [q, up_eq]
    · rw [up_nei (by omega)]; exact h e (by omega)
theorem b_sb (hS : Lgs B s S) (hc : Ctx M B s S) (hk : ∀ M', FrK M M' → SBp M' B s S → kk (avd (bwB B s S 119)) M') : Bd (wX5_sweepBack M) kk := by
  apply Bd.of; unfold wX5_sweepBack
  refine ⟨121, l_sb2 120 0 M (by omega) (fun e he => by omega) (fun M1 f1 g1 => ?_)⟩
  unfold wX5_sweepBack_22
  have hc1 := f1.ctx hc
  have hcap := cap_range (s := s) (d := 119) hc.1
  have e77 : M1 77 119 = capD B s 119 := (hc1.2.1.1.2 119 (by omega) (by omega)).2.2.2.2.1
  rw [e77]
  refine s_begin (n := 0) hcap.1 (fun M2 f2 h2 => ⟨120 + 1, ?_⟩)
  have hc2 := f2.ctx hc1
  unfold wX5_sweepBack_44
  refine ⟨(inRl (by decide)), ?_⟩
  rw [if_neg (by decide), if_neg (by decide)]
  have nl := nUn_le (B := B) (S := S) (a := 119) (e := 119)
  have n1 := nUn_one (B := B) (S := S) (a := 119)
  have n1' : nUn B S 119 119 = 0 + pcB (onp B S ((119 : Nat) : Int)) 24 := by omega
  have hf2 : SBf M2 B s S (119 + 1) := by
    refine f2.sbf ⟨fun e e1 e2 => by omega, fun e he => g1 e (by omega)⟩
  refine l_sb65 (d := 119) (n := 0) (by omega) hS hc2 ⟨by show (0 : Int) ≤ 0; omega, hcap.2⟩ h2 (by omega) ⟨rfl, rfl, fun z _ _ => ?_⟩ hf2 (fun M3 f3 h3 hf3 => ?_)
  · show co B S 119 z = 0 + co B S 119 z
    omega
  · have f13 := f1.trans (f2.toK.trans f3)
    rw [show ((119 : Nat) : Int) + -1 = ((118 : Nat) : Int) by decide]
    refine l_sb44 hS 118 M3 (by omega) (f13.ctx hc) ?_ hf3 (fun M4 f4 => hk M4 (f13.trans f4))
    rw [← n1'] at h3
    exact h3
/-! ahead -/
theorem fw_step {b k : Nat} {top : Int} : fwB B s S b top (k + 1) = adc (stp (fwB B s S b top k) (Lw B s (b + k)) (Hw B s (b + k)) (Cp B s (b + k + 1)) (Cuts B s (b + k + 1))) (co B S (b + k + 1)) := rfl
theorem i_ahead {b k : Nat} {top : Int} (hd : b + k < 119) (hS : Lgs B s S) (hc : Ctx M B s S) (ht : top ≤ 1000) (h : SL M (fwB B s S b top k) (nUn B S b (b + k))) (h0 : (fwB B s S b top (k + 1)).2.1 < (fwB B s S b top (k + 1)).1 → ∀ M', FrS M M' → A M') (h1 : ∀ M', FrS M M' → SL M' (fwB B s S b top (k + 1)) (nUn B S b (b + k + 1)) → kv M') : Bd (wX5_stepAhead (((b + k : Nat) : Int) + 1) M) (fun r M => inR r ∧ (if r = 0 then A M else Bv (wX5_addLogs (((b + k : Nat) : Int) + 1) M) kv)) := by
  have hbn := fw_bnd hc.1 hS (b := b) ht k
  have hst := hbn.st (low := Lw B s (b + k)) (high := Hw B s (b + k)) (cp := Cp B s (b + k + 1)) (q := Cuts B s (b + k + 1)) (LH hc.1 _) (cap_range hc.1).2
  have nu := nUn_up (B := B) (S := S) (a := b) (e := b + k) (by omega)
  have nl := nUn_le (B := B) (S := S) (a := b) (e := b + k + 1)
  have nl2 := nUn_le (B := B) (S := S) (a := b) (e := b + k)
  refine i_stepAhead hd hc.1 hc.2.1 h nl2 ⟨hbn.1, hbn.2.1⟩ (fun q M1 f1 g1 => ?_) (fun q M1 f1 => h0 q M1 f1)
  have hc1 := f1.ctx hc
  rw [show ((b + k : Nat) : Int) + 1 = ((b + k + 1 : Nat) : Int) by omega]
  refine b_addLogs (by omega) hc1.1 hc1.2.1 hS ⟨hst.1, hst.2.1⟩ (by omega) (hc1.2.2 _ (by omega)) g1 (fun M2 f2 g2 => h1 M2 (f1.trans f2) ?_)
  rw [nu]
  exact g2
theorem b_start {b : Nat} {top : Int} (hb : b < 120) (hS : Lgs B s S) (hc : Ctx M B s S) (ht : 0 ≤ top ∧ top ≤ 1000) (hk : ∀ M', FrS M M' → SL M' (fwB B s S b top 0) (nUn B S b b) → kv M') : Bv (wX9_begin 0 top 0 M) (fun M4 => Bv (wX5_addLogs (b : Int) M4) kv) := by
  refine s_begin (n := 0) ht.1 (fun M1 f1 h1 => ?_)
  have hc1 := f1.ctx hc
  have n1 := nUn_one (B := B) (S := S) (a := b)
  have nl := nUn_le (B := B) (S := S) (a := b) (e := b)
  refine b_addLogs hb hc1.1 hc1.2.1 hS ⟨by show (0 : Int) ≤ 0; omega, ht.2⟩ (by omega) (hc1.2.2 b hb) h1 (fun M2 f2 h2 => hk M2 (f1.trans f2) ?_)
  rw [n1, show pcB (onp B S (b : Int)) 24 = 0 + pcB (onp B S (b : Int)) 24 by omega]
  refine h2.congr rfl rfl (fun z _ _ => ?_)
  show co B S b z = 0 + co B S b z
  omega
def FrA (M M' : Mm) : Prop := ∀ c : Nat, c ≠ 91 → c ≠ 92 → c ≠ 93 → c ≠ 96 → M' c = M c
theorem FrA.refl : FrA M M := fun _ _ _ _ _ => rfl
theorem FrA.trans {M2 : Mm} (h1 : FrA M M') (h2 : FrA M' M2) : FrA M M2 := fun c a b d e => (h2 c a b d e).trans (h1 c a b d e)
theorem FrS.toA (h : FrS M M') : FrA M M' := fun c a b d _ => h c a b d
theorem FrA.ctx (f : FrA M M') (h : Ctx M B s S) : Ctx M' B s S := h.fr (fun c hc => f c (by omega) (by omega) (by omega) (by omega))
def SAp (M : Mm) (B : Int → Int) (s : Int) (S : Nat) : Prop := ∀ e : Nat, e + 1 < 120 → M 96 ((e + 1 : Nat) : Int) = avd (fwB B s S 0 (Cp B s 0) e)
theorem l_sa47 {Q : Mm → Prop} (hS : Lgs B s S) : ∀ (n k : Nat) (M : Mm), k + 1 + n = 120 → Ctx M B s S → SL M (fwB B s S 0 (Cp B s 0) k) (nUn B S 0 (0 + k)) → (∀ e : Nat, e < k → M 96 ((e + 1 : Nat) : Int) = avd (fwB B s S 0 (Cp B s 0) e)) → (∀ e : Nat, k ≤ e → e + 1 < 120 → M 96 ((e + 1 : Nat) : Int) = 100000000) → (∀ M', FrA M M' → SAp M' B s S → Q M') → wX5_sweepAhead_47 Q (n + 1) ((k : Int) + 1) M := by
  intro n
  induction n with
  | zero =>
    intro k M hk hc h h1 h2 hq
    unfold wX5_sweepAhead_47
    refine ⟨(inRof ⟨by omega, by omega⟩), ?_⟩
    rw [if_neg (by omega)]
    exact hq M FrA.refl (fun e he => h1 e (by omega))
  | succ n ih =>
    intro k M hk hc h h1 h2 hq
    have nl := nUn_le (B := B) (S := S) (a := 0) (e := 0 + k)
    have ne := h.ne
    have hcap := cap_range (s := s) (d := ((0 : Nat) : Int)) hc.1
    unfold wX5_sweepAhead_47
    refine ⟨(inRof ⟨by omega, by omega⟩), ?_⟩
    rw [if_pos (by omega)]
    refine s_botC h nl ⟨⟨by omega, by omega⟩, ?_⟩
    have ea : lst (fwB B s S 0 (Cp B s 0) k) = avd (fwB B s S 0 (Cp B s 0) k) := by
      unfold avd
      rw [if_neg (by omega)]
    rw [ea]
    have f0 : FrA M (up M 96 ((k : Int) + 1) (avd (fwB B s S 0 (Cp B s 0) k))) := fun c _ _ _ a => up_cell a
    have g0 : ∀ e : Nat, e < k + 1 → (up M 96 ((k : Int) + 1) (avd (fwB B s S 0 (Cp B s 0) k))) 96 ((e + 1 : Nat) : Int) = avd (fwB B s S 0 (Cp B s 0) e) := fun e he => by
      by_cases q : e = k
      · rw [q, show ((k + 1 : Nat) : Int) = (k : Int) + 1 by omega, up_eq]
      · rw [up_nei (by omega)]; exact h1 e (by omega)
    have g1 : ∀ e : Nat, k + 1 ≤ e → e + 1 < 120 → (up M 96 ((k : Int) + 1) (avd (fwB B s S 0 (Cp B s 0) k))) 96 ((e + 1 : Nat) : Int) = 100000000 := fun e e1 e2 => by rw [up_nei (by omega)]; exact h2 e (by omega) e2
    have h0 : SL (up M 96 ((k : Int) + 1) (avd (fwB B s S 0 (Cp B s 0) k))) (fwB B s S 0 (Cp B s 0) k) (nUn B S 0 (0 + k)) := h.frame (up_cell (by decide)) (up_cell (by decide)) (up_cell (by decide))
    have hc0 := f0.ctx hc
    have key := i_ahead (A := Q) (kv := fun M17 => wX5_sweepAhead_47 Q (n + 1) ((k : Int) + 1 + 1) M17) (b := 0) (k := k) (top := Cp B s 0) (by omega) hS hc0 hcap.2 h0 (fun he M1 f1 => ?_) (fun M1 f1 h1' => ?_)
    · rw [show ((0 + k : Nat) : Int) + 1 = (k : Int) + 1 by omega] at key
      exact key
    · refine hq M1 (f0.trans f1.toA) (fun e he' => ?_)
      rw [f1 96 (by decide) (by decide) (by decide)]
      by_cases q : e < k + 1
      · exact g0 e q
      · rw [g1 e (by omega) he']
        have := fw_empty he (e - (k + 1))
        rw [show k + 1 + (e - (k + 1)) = e by omega] at this
        unfold avd
        rw [if_pos this]
    · rw [show (k : Int) + 1 + 1 = ((k + 1 : Nat) : Int) + 1 by omega]
      refine ih (k + 1) M1 (by omega) (f1.ctx hc0) h1' (fun e he => by rw [f1 96 (by decide) (by decide) (by decide)]; exact g0 e he) (fun e e1 e2 => by rw [f1 96 (by decide) (by decide) (by decide)]; exact g1 e e1 e2) (fun M2 f2 => hq M2 ((f0.trans f1.toA).trans f2))
theorem l_sa2 {Q : Mm → Prop} : ∀ (k i : Nat) (M : Mm), i + k = 120 → (∀ e : Nat, e < i → M 96 (e : Int) = 100000000) → (∀ M', FrA M M' → (∀ e : Nat, e < 120 → M' 96 (e : Int) = 100000000) → wX5_sweepAhead_22 Q M') → wX5_sweepAhead_2 Q (k + 1) (i : Int) M := by
  intro k
  induction k with
  | zero =>
    intro i M hi h hk
    unfold wX5_sweepAhead_2
    refine ⟨(inRof ⟨by omega, by omega⟩), ?_⟩
    rw [if_neg (by omega)]
    exact hk M FrA.refl (fun e he => h e (by omega))
  | succ k ih =>
    intro i M hi h hk
    unfold wX5_sweepAhead_2
    refine ⟨(inRof ⟨by omega, by omega⟩), ?_⟩
    rw [if_pos (by omega)]
    refine ⟨⟨by omega, by omega⟩, ih (i + 1) _ (by omega) (fun e he => ?_) (fun M' k1 k2 => hk M' (fun c a1 a2 a3 a4 => by rw [k1 c a1 a2 a3 a4, up_cell a4]) k2)⟩
    by_cases q : e = i
    · rw [q, up_eq]
    · rw [up_nei (by omega)]; exact h e (by omega)
theorem b_sa (hS : Lgs B s S) (hc : Ctx M B s S) (hk : ∀ M', FrA M M' → SAp M' B s S → kv M') : Bv (wX5_sweepAhead M) kv := by
  apply Bv.of; unfold wX5_sweepAhead
  refine ⟨121, l_sa2 120 0 M (by omega) (fun e he => by omega) (fun M1 f1 g1 => ?_)⟩
  unfold wX5_sweepAhead_22
  have hc1 := f1.ctx hc
  have hcap := cap_range (s := s) (d := ((0 : Nat) : Int)) hc.1
  have e77 : M1 77 0 = Cp B s 0 := (hc1.2.1.1.2 0 (by omega) (by omega)).2.2.2.2.1
  rw [e77]
  refine b_start (b := 0) (by omega) hS hc1 hcap (fun M2 f2 h2 => ⟨120, ?_⟩)
  have := l_sa47 (Q := kv) hS 119 0 M2 (by omega) (f2.ctx hc1) h2 (fun e he => by omega) (fun e e1 e2 => by rw [f2 96 (by decide) (by decide) (by decide)]; exact g1 (e + 1) e2) (fun M3 f3 h3 => hk M3 ((f1.trans f2.toA).trans f3) h3)
  exact this
/-! the curve -/
theorem cvR_range {L H ct bt : Nat → Int} (hL : ∀ d, -100 ≤ L d ∧ L d ≤ 100) (hH : ∀ d, -100 ≤ H d ∧ H d ≤ 100) (hb : ∀ d, d < 120 → 0 ≤ bt d ∧ bt d ≤ 1000) : ∀ d : Nat, d < 120 → -(100 * (d : Int)) ≤ cvR L H ct bt d ∧ cvR L H ct bt d ≤ 1000 + 100 * (d : Int)
  | 0, h => by
    have := hb 0 h
    show -(100 * ((0 : Nat) : Int)) ≤ bt 0 ∧ bt 0 ≤ _
    omega
  | d + 1, h => by
    have ih := cvR_range hL hH hb (ct := ct) d (by omega)
    have h1 := hb (d + 1) h
    have h2 := hL d
    have h3 := hH d
    unfold cvR
    split <;> omega
theorem l_fb {Q : Mm → Prop} {bt : Nat → Int} (hb : ∀ d, d < 120 → 0 ≤ bt d ∧ bt d ≤ 1000) : ∀ (k d : Nat) (M : Mm), d + 1 + k = 120 → BkR M B → Nt M B s → (∀ e : Nat, e < 120 → M 95 (e : Int) = bt e) → (∀ e : Nat, e ≤ d → M 98 (e : Int) = cvR (Lw B s) (Hw B s) (Cuts B s) bt e) → (∀ M', (∀ c : Nat, c ≠ 98 → M' c = M c) → (∀ e : Nat, e < 120 → M' 98 (e : Int) = cvR (Lw B s) (Hw B s) (Cuts B s) bt e) → Q M') → wX5_followBottoms_14 Q (k + 1) ((d : Int) + 1) M := by
  intro k
  induction k with
  | zero =>
    intro d M hd hB hnt h95 h98 hk
    unfold wX5_followBottoms_14
    refine ⟨(inRof ⟨by omega, by omega⟩), ?_⟩
    rw [if_neg (by omega)]
    exact hk M (fun _ _ => rfl) (fun e he => h98 e (by omega))
  | succ k ih =>
    intro d M hd hB hnt h95 h98 hk
    have hbr2 := fun d : Nat => byT_range (B := B) (s := s) (d := (d : Int)) hB
    have cr := cvR_range (L := Lw B s) (H := Hw B s) (ct := Cuts B s) (bt := bt) (fun d => by have := hbr2 d; unfold Lw; omega) (fun d => by have := hbr2 d; unfold Hw; omega) hb d (by omega)
    obtain ⟨-, -, e75, e76, -, -⟩ := hnt.1.2 (d : Int) (by omega) (by omega)
    obtain ⟨-, -, -, -, -, e78⟩ := hnt.1.2 ((d : Int) + 1) (by omega) (by omega)
    have hct := cut_range (B := B) (s := s) (d := (d : Int) + 1)
    have hcc : cutD B s ((d : Int) + 1) = Cuts B s (d + 1) := by unfold Cuts; rw [show ((d + 1 : Nat) : Int) = (d : Int) + 1 by omega]
    have h95' : M 95 ((d : Int) + 1) = bt (d + 1) := by have := h95 (d + 1) (by omega); rw [show ((d + 1 : Nat) : Int) = (d : Int) + 1 by omega] at this; exact this
    have hb1 := hb (d + 1) (by omega)
    have h2 := hbr2 d
    unfold wX5_followBottoms_14
    refine ⟨(inRof ⟨by omega, by omega⟩), ?_⟩
    rw [if_pos (by omega), show (d : Int) + 1 - 1 = (d : Int) by omega, e78, e75, h95', h98 d (Nat.le_refl _)]
    refine ⟨⟨by omega, by omega⟩, (inRof ⟨by omega, by omega⟩), ?_⟩
    have go : ∀ x : Int, x = cvR (Lw B s) (Hw B s) (Cuts B s) bt (d + 1) → wX5_followBottoms_14 Q (k + 1) ((d : Int) + 1 + 1) (up M 98 ((d : Int) + 1) x) := by
      intro x hx
      rw [show (d : Int) + 1 + 1 = ((d + 1 : Nat) : Int) + 1 by omega]
      refine ih (d + 1) _ (by omega) (BkR_up hB (by decide)) (hnt.fr (fun c c1 c2 => up_cell (by omega))) (fun e he => by rw [up_ne (by decide)]; exact h95 e he) (fun e he => ?_) (fun M' k1 k2 => hk M' (fun c hc => by rw [k1 c hc, up_cell hc]) k2)
      by_cases q : e = d + 1
      · rw [q, show ((d + 1 : Nat) : Int) = (d : Int) + 1 by omega, up_eq]; exact hx
      · rw [up_nei (by omega)]; exact h98 e (by omega)
    by_cases c : cutD B s ((d : Int) + 1) = 0
    · rw [if_pos c]
      refine ⟨⟨by omega, by omega⟩, b_max (inRof ⟨by omega, by omega⟩) (inRof ⟨by omega, by omega⟩) ?_⟩
      rw [h98 d (Nat.le_refl _), e76]
      refine b_min (inRof ⟨by omega, by omega⟩) (inRof ⟨by omega, by omega⟩) (go _ ?_)
      rw [cvR_succ, if_pos (by rw [← hcc]; exact c)]
      rfl
    · rw [if_neg c]
      refine go _ ?_
      rw [cvR_succ, if_neg (by rw [← hcc]; exact c)]
theorem b_fb {bt : Nat → Int} (hb : ∀ d, d < 120 → 0 ≤ bt d ∧ bt d ≤ 1000) (hB : BkR M B) (hnt : Nt M B s) (h95 : ∀ e : Nat, e < 120 → M 95 (e : Int) = bt e) (hk : ∀ M', (∀ c : Nat, c ≠ 98 → M' c = M c) → (∀ e : Nat, e < 120 → M' 98 (e : Int) = cvR (Lw B s) (Hw B s) (Cuts B s) bt e) → kv M') : Bv (wX5_followBottoms M) kv := by
  apply Bv.of; unfold wX5_followBottoms
  have h0 : M 95 0 = bt 0 := h95 0 (by omega)
  rw [h0]
  refine ⟨120, ?_⟩
  have := l_fb (Q := kv) hb 119 0 (up M 98 0 (bt 0)) (by omega) (BkR_up hB (by decide)) (hnt.fr (fun c c1 c2 => up_cell (by omega))) (fun e he => by rw [up_ne (by decide)]; exact h95 e he) (fun e he => by rw [show e = 0 by omega]; exact up_eq) (fun M' k1 k2 => hk M' (fun c hc => by rw [k1 c hc, up_cell hc]) k2)
  exact this
end Sw2
