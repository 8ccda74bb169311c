/-! ===== spans: the logs of a set; Net.bind, Net.counting ===== -/
def aloR (B : Int → Int) (S : Nat) (d : Int) : Nat → Int
  | 0 => 0
  | n + 1 => if S.testBit n = true ∧ B (504 + 9 * (n : Int)) = d then max (aloR B S d n) (rd B (n : Int) 0) else aloR B S d n
def ahiR (B : Int → Int) (c : Int) (S : Nat) (d : Int) : Nat → Int
  | 0 => c
  | n + 1 => if S.testBit n = true ∧ B (504 + 9 * (n : Int)) = d then min (ahiR B c S d n) (rd B (n : Int) 1) else ahiR B c S d n
def alo (B : Int → Int) (S : Nat) (d : Nat) : Int := aloR B S (d : Int) (B 724).toNat
def ahi (B : Int → Int) (s : Int) (S : Nat) (d : Nat) : Int := ahiR B (capD B s (d : Int)) S (d : Int) (B 724).toNat
def Lw (B : Int → Int) (s : Int) (d : Nat) : Int := byT B s (d : Int) 0
def Hw (B : Int → Int) (s : Int) (d : Nat) : Int := byT B s (d : Int) 1
def Cuts (B : Int → Int) (s : Int) (d : Nat) : Int := cutD B s (d : Int)
def sFl (B : Int → Int) (s : Int) (S : Nat) : Nat → Int := fl (alo B S) (Lw B s) (Cuts B s)
def sFh (B : Int → Int) (s : Int) (S : Nat) : Nat → Int := fh (ahi B s S) (Hw B s) (Cuts B s)
def sLo (B : Int → Int) (s : Int) (S : Nat) : Nat → Int := bl (alo B S) (Lw B s) (Hw B s) (Cuts B s)
def sHi (B : Int → Int) (s : Int) (S : Nat) : Nat → Int := bh (ahi B s S) (Lw B s) (Hw B s) (Cuts B s)
/-- there is a curve that meets all of S -/
def sOk (B : Int → Int) (s : Int) (S : Nat) : Prop := okF (alo B S) (ahi B s S) (Lw B s) (Hw B s) (Cuts B s)
/-- the set holds logs of the ship that can be read alone -/
def Lgs (B : Int → Int) (s : Int) (S : Nat) : Prop := ∀ l : Nat, S.testBit l = true → (l : Int) < B 724 ∧ B (503 + 9 * (l : Int)) = s ∧ rd B (l : Int) 0 ≠ -1
section Sets
variable {b : Mm} {B : Int → Int} {s : Int} {S : Nat}
theorem cap_range (h : BkR b B) {d : Int} : 0 ≤ capD B s d ∧ capD B s d ≤ 1000 := by
  have := left_range (s := s) (d := d) h
  unfold capD
  split <;> omega
theorem cut_range {d : Int} : cutD B s d = 0 ∨ cutD B s d = 1 := by
  unfold cutD
  split
  · exact Or.inl rfl
  · exact Or.inr rfl
theorem Lgs.rd (h : BkR b B) (hS : Lgs B s S) {l : Nat} (hl : S.testBit l = true) : 0 ≤ rd B (l : Int) 0 ∧ rd B (l : Int) 0 ≤ rd B (l : Int) 1 ∧ rd B (l : Int) 1 ≤ 1000 := by
  obtain ⟨h1, h2, h3⟩ := hS l hl
  rcases rd_range h (show 0 ≤ (l : Int) ∧ (l : Int) < B 724 by omega) with q | q
  · exact absurd q.1 h3
  · exact q
theorem aloR_range (h : BkR b B) (hS : Lgs B s S) (d : Int) : ∀ n : Nat, 0 ≤ aloR B S d n ∧ aloR B S d n ≤ 1000
  | 0 => ⟨by show (0 : Int) ≤ 0; omega, by show (0 : Int) ≤ 1000; omega⟩
  | n + 1 => by
    have ih := aloR_range h hS d n
    unfold aloR
    by_cases c : S.testBit n = true ∧ B (504 + 9 * (n : Int)) = d
    · rw [if_pos c]
      have := hS.rd h c.1
      omega
    · rw [if_neg c]; exact ih
theorem ahiR_range (h : BkR b B) (hS : Lgs B s S) (d : Int) {c : Int} (hc : 0 ≤ c ∧ c ≤ 1000) : ∀ n : Nat, 0 ≤ ahiR B c S d n ∧ ahiR B c S d n ≤ 1000
  | 0 => hc
  | n + 1 => by
    have ih := ahiR_range h hS d hc n
    unfold ahiR
    by_cases q : S.testBit n = true ∧ B (504 + 9 * (n : Int)) = d
    · rw [if_pos q]
      have := hS.rd h q.1
      omega
    · rw [if_neg q]; exact ih
theorem alo_range (h : BkR b B) (hS : Lgs B s S) (d : Nat) : 0 ≤ alo B S d ∧ alo B S d ≤ 1000 := aloR_range h hS _ _
theorem ahi_range (h : BkR b B) (hS : Lgs B s S) (d : Nat) : -1 ≤ ahi B s S d ∧ ahi B s S d ≤ 1000 := by
  have := ahiR_range h hS (d : Int) (cap_range (s := s) (d := (d : Int)) h) (B 724).toNat
  unfold ahi
  omega
theorem Lw_range (h : BkR b B) (d : Nat) : -100 ≤ Lw B s d ∧ Lw B s d ≤ 100 := by have := byT_range (s := s) (d := (d : Int)) h; unfold Lw; omega
theorem Hw_range (h : BkR b B) (d : Nat) : -100 ≤ Hw B s d ∧ Hw B s d ≤ 100 := by have := byT_range (s := s) (d := (d : Int)) h; unfold Hw; omega
theorem LH (h : BkR b B) (d : Nat) : Lw B s d ≤ Hw B s d := (byT_range (s := s) (d := (d : Int)) h).2.1
theorem sFl_range (h : BkR b B) (hS : Lgs B s S) (n : Nat) : 0 ≤ sFl B s S n ∧ sFl B s S n ≤ 1000 + 100 * (n : Int) := fl_range (alo_range h hS) (Lw_range h) n
theorem sFh_range (h : BkR b B) (hS : Lgs B s S) (n : Nat) : -1 - 100 * (n : Int) ≤ sFh B s S n ∧ sFh B s S n ≤ 1000 := fh_range (ahi_range h hS) (Hw_range h) n
theorem sLo_range (h : BkR b B) (hS : Lgs B s S) : ∀ d, d < 120 → 0 ≤ sLo B s S d ∧ sLo B s S d ≤ 25000 := bl_range (alo_range h hS) (Lw_range h) (Hw_range h)
theorem sHi_range (h : BkR b B) (hS : Lgs B s S) : ∀ d, d < 120 → -25000 ≤ sHi B s S d ∧ sHi B s S d ≤ 1000 := bh_range (ahi_range h hS) (Lw_range h) (Hw_range h)
theorem sOk_iff (h : BkR b B) : sOk B s S ↔ ∀ d, d < 120 → sLo B s S d ≤ sHi B s S d := ok_iff (LH h)
theorem sOk_range (h : BkR b B) (hS : Lgs B s S) (ho : sOk B s S) : ∀ d, d < 120 → 0 ≤ sLo B s S d ∧ sLo B s S d ≤ sHi B s S d ∧ sHi B s S d ≤ 1000 := fun d hd => ⟨(sLo_range h hS d hd).1, (sOk_iff h).mp ho d hd, (sHi_range h hS d hd).2⟩
theorem sFl_succ (n : Nat) : sFl B s S (n + 1) = if cutD B s ((n : Int) + 1) = 0 then max (alo B S (n + 1)) (sFl B s S n + byT B s (n : Int) 0) else alo B S (n + 1) := rfl
theorem sFh_succ (n : Nat) : sFh B s S (n + 1) = if cutD B s ((n : Int) + 1) = 0 then min (ahi B s S (n + 1)) (sFh B s S n + byT B s (n : Int) 1) else ahi B s S (n + 1) := rfl
theorem sLo_step {d : Nat} (h : d < 119) : sLo B s S d = if cutD B s ((d : Int) + 1) = 0 then max (sFl B s S d) (sLo B s S (d + 1) - byT B s (d : Int) 1) else sFl B s S d := bl_step h
theorem sHi_step {d : Nat} (h : d < 119) : sHi B s S d = if cutD B s ((d : Int) + 1) = 0 then min (sFh B s S d) (sHi B s S (d + 1) - byT B s (d : Int) 0) else sFh B s S d := bh_step h
end Sets
section Bind
variable {kv : Mm → Prop} {k : Int → Mm → Prop} {s : Int} {B : Int → Int} {S : Nat}
theorem b_narrow {M : Mm} {d x y : Int} (hd : 0 ≤ d ∧ d < 120) (h1 : inR (M 81 d)) (h2 : inR (M 82 d)) (hx : inR x) (hy : inR y) (hk : kv (up (up M 81 d (max (M 81 d) x)) 82 d (min (M 82 d) y))) : Bv (wX6_narrow d x y M) kv := by
  apply Bv.of; unfold wX6_narrow
  exact ⟨hd, b_max h1 hx (b_min h2 hy hk)⟩
theorem bit01 {n j : Nat} (hj : j < 32) (hn : n < 2147483648) : (landI (shrI (n : Int) (j : Int)) 1 = 1 ↔ n.testBit j = true) ∧ (landI (shrI (n : Int) (j : Int)) 1 = 0 ↔ ¬ n.testBit j = true) := by
  rw [bitN hj hn]
  by_cases c : n.testBit j = true
  · rw [if_pos c]; exact ⟨⟨fun _ => c, fun _ => rfl⟩, ⟨fun q => absurd q (by decide), fun q => absurd c q⟩⟩
  · rw [if_neg c]; exact ⟨⟨fun q => absurd q (by decide), fun q => absurd q c⟩, ⟨fun _ => c, fun _ => rfl⟩⟩
/-- memory but for the net's ends -/
def FrE (M M' : Mm) : Prop := ∀ c : Nat, c ≠ 81 → c ≠ 82 → M' c = M c
theorem FrE.book {M M' : Mm} (h : FrE M M') (hB : BkR M B) : BkR M' B := BkR_congr (fun c h1 h2 i _ _ => by rw [h c (by omega) (by omega)]) (fun _ _ _ => rfl) hB
theorem FrE.net {M M' : Mm} (h : FrE M M') (hn : Nt M B s) : Nt M' B s := by
  obtain ⟨⟨n1, n2⟩, n3, n4⟩ := hn
  refine ⟨⟨?_, ?_⟩, ?_, ?_⟩
  · rw [h 72 (by decide) (by decide)]; exact n1
  · rw [h 73 (by decide) (by decide), h 74 (by decide) (by decide), h 75 (by decide) (by decide), h 76 (by decide) (by decide), h 77 (by decide) (by decide), h 78 (by decide) (by decide)]; exact n2
  · rw [h 72 (by decide) (by decide)]; exact n3
  · rw [h 79 (by decide) (by decide), h 80 (by decide) (by decide)]; exact n4
theorem FrE.up {M M' : Mm} (h : FrE M M') {d x y : Int} : FrE M (up (up M' 81 d x) 82 d y) := fun c h1 h2 => by rw [up_cell h2, up_cell h1]; exact h c h1 h2
theorem l_bd0 {Q : Int → Mm → Prop} {S : Int} : ∀ (f : Nat) (v : Int) (M : Mm), 0 ≤ v → v ≤ 120 → 120 - v < (f : Int) → (∀ M', FrE M M' → (∀ d, v ≤ d → d < 120 → M' 81 d = 0 ∧ M' 82 d = M 77 d) → (∀ d, d < v → M' 81 d = M 81 d ∧ M' 82 d = M 82 d) → wX6_bind_33 Q S M') → wX6_bind_2 Q S f v M := by
  intro f
  induction f with
  | zero => intro v M h0 h1 h2; omega
  | succ f ih =>
    intro v M h0 h1 h2 hk
    unfold wX6_bind_2
    refine ⟨(inRof ⟨by omega, by omega⟩), ?_⟩
    by_cases c : v < 120
    · rw [if_pos c]
      refine ⟨⟨h0, c⟩, ih (v + 1) _ (by omega) (by omega) (by omega) (fun M' k1 k2 k3 => hk M' (fun c' e1 e2 => ?_) (fun d g0 g1 => ?_) (fun d g => ?_))⟩
      · rw [k1 c' e1 e2, up_cell e2, up_cell e1]
      · by_cases q : d = v
        · subst q
          obtain ⟨f1, f2⟩ := k3 d (by omega)
          rw [f1, f2, up_eq, up_ne (by decide), up_eq]
          exact ⟨rfl, rfl⟩
        · have := k2 d (by omega) g1
          rw [up_ne (by decide), up_ne (by decide)] at this
          exact this
      · obtain ⟨f1, f2⟩ := k3 d (by omega)
        rw [f1, f2, up_nei (by omega), up_ne (by decide), up_nei (by omega), up_ne (by decide)]
        exact ⟨rfl, rfl⟩
    · rw [if_neg c]
      exact hk M (fun _ _ _ => rfl) (fun d g0 g1 => by omega) (fun d g => ⟨rfl, rfl⟩)
theorem l_bd1 {Q : Int → Mm → Prop} {N : Nat} (hN : B 724 = (N : Int)) (hSn : S < 16777216) (hS : Lgs B s S) : ∀ (f j : Nat) (M : Mm), j ≤ N → N - j < f → BkR M B → Nt M B s → (∀ d : Nat, d < 120 → M 81 (d : Int) = aloR B S (d : Int) j ∧ M 82 (d : Int) = ahiR B (capD B s (d : Int)) S (d : Int) j) → (∀ M', FrE M M' → (∀ d : Nat, d < 120 → M' 81 (d : Int) = alo B S d ∧ M' 82 (d : Int) = ahi B s S d) → ∃ n, wX6_bind_90 Q n 1 M') → wX6_bind_43 Q (S : Int) f (j : Int) M := by
  intro f
  induction f with
  | zero => intro j M h1 h2; omega
  | succ f ih =>
    intro j M h1 h2 h hn hc hk
    have n3 := h.1.2.2.2
    have n0 := h.1.1
    unfold wX6_bind_43
    rw [n3.1, hN]
    refine ⟨(inRof ⟨by omega, by omega⟩), (inRof ⟨by omega, by omega⟩), ?_⟩
    by_cases c : (j : Int) < (N : Int)
    · rw [if_pos c]
      obtain ⟨⟨e16, e17, -⟩, r1, r2, -⟩ := h.2.2.2.2.2.2.1 (j : Int) (by omega) (by omega)
      have hb := bit01 (n := S) (j := j) (by omega) (by omega)
      by_cases c1 : S.testBit j = true
      · rw [if_pos (hb.1.mpr c1)]
        obtain ⟨s1, s2, s3⟩ := hS j c1
        obtain ⟨f79, f80⟩ := hn.2.2 (j : Int) (by omega) s1 s2
        have hr := hS.rd h c1
        rw [e17, f79, f80]
        obtain ⟨D, hD⟩ := Int.eq_ofNat_of_zero_le r2.1
        have hD' : B (504 + 9 * (j : Int)) = (D : Int) := hD
        have hcD := hc D (by omega)
        have a1 := aloR_range h hS (D : Int) j
        have a2 := ahiR_range h hS (D : Int) (cap_range (s := s) (d := (D : Int)) h) j
        rw [hD']
        refine ⟨⟨by omega, by omega⟩, b_narrow ⟨by omega, by omega⟩ (by rw [hcD.1]; exact (inRof ⟨by omega, by omega⟩)) (by rw [hcD.2]; exact (inRof ⟨by omega, by omega⟩)) (inRof ⟨by omega, by omega⟩) (inRof ⟨by omega, by omega⟩) ?_⟩
        refine ih (j + 1) _ (by omega) (by omega) (FrE.book (FrE.up (fun _ _ _ => rfl)) h) (FrE.net (FrE.up (fun _ _ _ => rfl)) hn) (fun d hd => ?_) (fun M' k1 k2 => hk M' (fun c h1 h2 => by rw [k1 c h1 h2, up_cell h2, up_cell h1]) k2)
        by_cases q : d = D
        · subst q
          rw [up_ne (by decide), up_eq, up_eq, hcD.1, hcD.2]
          exact ⟨(if_pos ⟨c1, hD'⟩).symm, (if_pos ⟨c1, hD'⟩).symm⟩
        · rw [up_ne (by decide), up_nei (by omega), up_nei (by omega), up_ne (by decide)]
          unfold aloR ahiR
          rw [if_neg (by omega), if_neg (by omega)]
          exact hc d hd
      · rw [if_neg (fun z => c1 (hb.1.mp z))]
        refine ih (j + 1) _ (by omega) (by omega) h hn (fun d hd => ?_) hk
        unfold aloR ahiR
        rw [if_neg (fun z => c1 z.1), if_neg (fun z => c1 z.1)]
        exact hc d hd
    · rw [if_neg c]
      have e : (B 724).toNat = j := by omega
      refine hk M (fun _ _ _ => rfl) (fun d hd => ?_)
      unfold alo ahi
      rw [e]
      exact hc d hd
set_option maxRecDepth 20000 in
theorem l_bd2 {Q : Int → Mm → Prop} (hS : Lgs B s S) : ∀ (f v : Nat) (M : Mm), v + 1 ≤ 120 → 120 - (v + 1) < f → BkR M B → Nt M B s → (∀ d : Nat, d ≤ v → M 81 (d : Int) = sFl B s S d ∧ M 82 (d : Int) = sFh B s S d) → (∀ d : Nat, v < d → d < 120 → M 81 (d : Int) = alo B S d ∧ M 82 (d : Int) = ahi B s S d) → (∀ M', FrE M M' → (∀ d : Nat, d < 120 → M' 81 (d : Int) = sFl B s S d ∧ M' 82 (d : Int) = sFh B s S d) → ∃ n, wX6_bind_153 Q n 118 M') → wX6_bind_90 Q f ((v : Int) + 1) M := by
  intro f
  induction f with
  | zero => intro v M h0 h1; omega
  | succ f ih =>
    intro v M h0 h1 h hn ha hb hk
    unfold wX6_bind_90
    refine ⟨(inRof ⟨by omega, by omega⟩), ?_⟩
    by_cases c : (v : Int) + 1 < 120
    · rw [if_pos c]
      have t1 := hn.1.2 ((v : Int) + 1) (by omega) (by omega)
      have t0 := hn.1.2 (v : Int) (by omega) (by omega)
      have cr := cut_range (B := B) (s := s) (d := (v : Int) + 1)
      have av := ha v (by omega)
      have bv := hb (v + 1) (by omega) (by omega)
      rw [show ((v + 1 : Nat) : Int) = (v : Int) + 1 by omega] at bv
      have r1 := sFl_range h hS v
      have r2 := sFh_range h hS v
      have r3 := alo_range h hS (v + 1)
      have r4 := ahi_range h hS (v + 1)
      have r5 := byT_range (s := s) (d := (v : Int)) h
      rw [t1.2.2.2.2.2]
      refine ⟨⟨by omega, by omega⟩, (inRof ⟨by omega, by omega⟩), ?_⟩
      have es := sFl_succ (B := B) (s := s) (S := S) v
      have et := sFh_succ (B := B) (s := s) (S := S) v
      by_cases q : cutD B s ((v : Int) + 1) = 0
      · rw [if_pos q]
        rw [if_pos q] at es et
        rw [show (v : Int) + 1 - 1 = (v : Int) by omega, t0.2.2.1, t0.2.2.2.1, av.1, av.2]
        refine ⟨⟨by omega, by omega⟩, b_narrow ⟨by omega, by omega⟩ (by rw [bv.1]; exact (inRof ⟨by omega, by omega⟩)) (by rw [bv.2]; exact (inRof ⟨by omega, by omega⟩)) (inRof ⟨by omega, by omega⟩) (inRof ⟨by omega, by omega⟩) ?_⟩
        have := ih (v + 1) (up (up M 81 ((v : Int) + 1) (max (M 81 ((v : Int) + 1)) (sFl B s S v + byT B s (v : Int) 0))) 82 ((v : Int) + 1) (min (M 82 ((v : Int) + 1)) (sFh B s S v + byT B s (v : Int) 1))) (by omega) (by omega) (FrE.book (FrE.up (fun _ _ _ => rfl)) h) (FrE.net (FrE.up (fun _ _ _ => rfl)) hn) (fun d hd => ?_) (fun d g0 g1 => ?_) (fun M' k1 k2 => hk M' (fun c h1 h2 => by rw [k1 c h1 h2, up_cell h2, up_cell h1]) k2)
        · exact this
        · by_cases z : d = v + 1
          · subst z
            rw [show ((v + 1 : Nat) : Int) = (v : Int) + 1 by omega, up_ne (by decide), up_eq, up_eq, bv.1, bv.2, es, et]
            exact ⟨rfl, rfl⟩
          · rw [up_ne (by decide), up_nei (by omega), up_nei (by omega), up_ne (by decide)]
            exact ha d (by omega)
        · rw [up_ne (by decide), up_nei (by omega), up_nei (by omega), up_ne (by decide)]
          exact hb d (by omega) g1
      · rw [if_neg q]
        rw [if_neg q] at es et
        have := ih (v + 1) M (by omega) (by omega) h hn (fun d hd => ?_) (fun d g0 g1 => hb d (by omega) g1) hk
        · exact this
        · by_cases z : d = v + 1
          · subst z
            rw [show ((v + 1 : Nat) : Int) = (v : Int) + 1 by omega, bv.1, bv.2, es, et]
            exact ⟨rfl, rfl⟩
          · exact ha d (by omega)
    · rw [if_neg c]
      exact hk M (fun _ _ _ => rfl) (fun d hd => ha d (by omega))
set_option maxRecDepth 20000 in
theorem l_isB {Q : Int → Mm → Prop} {M : Mm} {g h : Nat → Int} (hr : ∀ d : Nat, d < 120 → M 81 (d : Int) = g d ∧ M 82 (d : Int) = h d ∧ inR (g d) ∧ inR (h d)) (k1 : (∀ d, d < 120 → g d ≤ h d) → Q 1 M) (k0 : ¬ (∀ d, d < 120 → g d ≤ h d) → Q 0 M) : ∀ (f v : Nat), v ≤ 120 → 120 - v < f → (∀ d, d < v → g d ≤ h d) → wX6_isBound_2 Q f (v : Int) M := by
  intro f
  induction f with
  | zero => intro v h0 h1; omega
  | succ f ih =>
    intro v h0 h1 hv
    unfold wX6_isBound_2
    refine ⟨(inRof ⟨by omega, by omega⟩), ?_⟩
    by_cases c : (v : Int) < 120
    · rw [if_pos c]
      obtain ⟨e1, e2, e3, e4⟩ := hr v (by omega)
      rw [e1, e2]
      refine ⟨⟨by omega, c⟩, e3, e4, ?_⟩
      by_cases q : g v ≤ h v
      · rw [if_pos q]
        refine ih (v + 1) (by omega) (by omega) (fun d hd => ?_)
        by_cases z : d = v
        · subst z; exact q
        · exact hv d (by omega)
      · rw [if_neg q]
        exact k0 (fun z => q (z v (by omega)))
    · rw [if_neg c]
      exact k1 (fun d hd => hv d (by omega))
theorem l_bd3 {Q : Int → Mm → Prop} (hS : Lgs B s S) : ∀ (f v : Nat) (M : Mm), v ≤ 119 → v < f → BkR M B → Nt M B s → (∀ d : Nat, d < v → M 81 (d : Int) = sFl B s S d ∧ M 82 (d : Int) = sFh B s S d) → (∀ d : Nat, v ≤ d → d < 120 → M 81 (d : Int) = sLo B s S d ∧ M 82 (d : Int) = sHi B s S d) → (∀ M', FrE M M' → (∀ d : Nat, d < 120 → M' 81 (d : Int) = sLo B s S d ∧ M' 82 (d : Int) = sHi B s S d) → (sOk B s S → Q 1 M') ∧ (¬ sOk B s S → Q 0 M')) → wX6_bind_153 Q f ((v : Int) - 1) M := by
  intro f
  induction f with
  | zero => intro v M h0 h1; omega
  | succ f ih =>
    intro v M h0 h1 h hn ha hb hk
    unfold wX6_bind_153
    refine ⟨(inRof ⟨by omega, by omega⟩), ?_⟩
    by_cases c : (v : Int) - 1 < 0
    · rw [if_pos c]
      have hk := hk M (fun _ _ _ => rfl) (fun d hd => hb d (by omega) hd)
      apply Bd.of; unfold wX6_isBound
      refine ⟨121, l_isB (g := sLo B s S) (h := sHi B s S) (fun d hd => ?_) (fun q => ⟨Or.inr rfl, hk.1 ((sOk_iff h).mpr q)⟩) (fun q => ⟨Or.inl rfl, hk.2 (fun z => q ((sOk_iff h).mp z))⟩) 121 0 (by omega) (by omega) (fun d hd => by omega)⟩
      have r1 := sLo_range h hS d hd
      have r2 := sHi_range h hS d hd
      have := hb d (by omega) hd
      exact ⟨this.1, this.2, (inRof ⟨by omega, by omega⟩), (inRof ⟨by omega, by omega⟩)⟩
    · rw [if_neg c]
      obtain ⟨u, hu⟩ : ∃ u : Nat, v = u + 1 := ⟨v - 1, by omega⟩
      subst hu
      rw [show ((u + 1 : Nat) : Int) - 1 = (u : Int) by omega]
      have t1 := hn.1.2 ((u : Int) + 1) (by omega) (by omega)
      have t0 := hn.1.2 (u : Int) (by omega) (by omega)
      have cr := cut_range (B := B) (s := s) (d := (u : Int) + 1)
      have au := ha u (by omega)
      have bu := hb (u + 1) (by omega) (by omega)
      rw [show ((u + 1 : Nat) : Int) = (u : Int) + 1 by omega] at bu
      have r1 := sFl_range h hS u
      have r2 := sFh_range h hS u
      have r3 := sLo_range h hS (u + 1) (by omega)
      have r4 := sHi_range h hS (u + 1) (by omega)
      have r5 := byT_range (s := s) (d := (u : Int)) h
      rw [t1.2.2.2.2.2]
      refine ⟨⟨by omega, by omega⟩, (inRof ⟨by omega, by omega⟩), ?_⟩
      have es := sLo_step (B := B) (s := s) (S := S) (d := u) (by omega)
      have et := sHi_step (B := B) (s := s) (S := S) (d := u) (by omega)
      by_cases q : cutD B s ((u : Int) + 1) = 0
      · rw [if_pos q]
        rw [if_pos q] at es et
        rw [t0.2.2.1, t0.2.2.2.1, bu.1, bu.2]
        refine ⟨⟨by omega, by omega⟩, b_narrow ⟨by omega, by omega⟩ (by rw [au.1]; exact (inRof ⟨by omega, by omega⟩)) (by rw [au.2]; exact (inRof ⟨by omega, by omega⟩)) (inRof ⟨by omega, by omega⟩) (inRof ⟨by omega, by omega⟩) ?_⟩
        refine ih u _ (by omega) (by omega) (FrE.book (FrE.up (fun _ _ _ => rfl)) h) (FrE.net (FrE.up (fun _ _ _ => rfl)) hn) (fun d hd => ?_) (fun d g0 g1 => ?_) (fun M' k1 k2 => hk M' (fun c h1 h2 => by rw [k1 c h1 h2, up_cell h2, up_cell h1]) k2)
        · rw [up_ne (by decide), up_nei (by omega), up_nei (by omega), up_ne (by decide)]
          exact ha d (by omega)
        · by_cases z : d = u
          · subst z
            rw [up_ne (by decide), up_eq, up_eq, au.1, au.2, es, et]
            exact ⟨rfl, rfl⟩
          · rw [up_ne (by decide), up_nei (by omega), up_nei (by omega), up_ne (by decide)]
            exact hb d (by omega) g1
      · rw [if_neg q]
        rw [if_neg q] at es et
        refine ih u M (by omega) (by omega) h hn (fun d hd => ha d (by omega)) (fun d g0 g1 => ?_) hk
        by_cases z : d = u
        · subst z
          rw [au.1, au.2, es, et]
          exact ⟨rfl, rfl⟩
        · exact hb d (by omega) g1
theorem b_bind {M : Mm} (h : BkR M B) (hn : Nt M B s) (hSn : S < 16777216) (hS : Lgs B s S) (hk : ∀ M', FrE M M' → (∀ d : Nat, d < 120 → M' 81 (d : Int) = sLo B s S d ∧ M' 82 (d : Int) = sHi B s S d) → (sOk B s S → k 1 M') ∧ (¬ sOk B s S → k 0 M')) : Bd (wX6_bind (S : Int) M) k := by
  have n3 := h.1.2.2.2
  obtain ⟨N, hN⟩ := Int.eq_ofNat_of_zero_le n3.2.1
  have hN' : B 724 = (N : Int) := hN
  apply Bd.of; unfold wX6_bind
  refine ⟨121, l_bd0 121 0 M (by omega) (by omega) (by omega) (fun M1 a1 a2 _ => ?_)⟩
  have h1 := a1.book h
  have m1 := a1.net hn
  unfold wX6_bind_33
  refine ⟨25, l_bd1 (N := N) hN' hSn hS 25 0 M1 (by omega) (by omega) h1 m1 (fun d hd => ?_) (fun M2 b1 b2 => ?_)⟩
  · have := a2 (d : Int) (by omega) (by omega)
    rw [this.1, this.2, (hn.1.2 (d : Int) (by omega) (by omega)).2.2.2.2.1]
    exact ⟨rfl, rfl⟩
  have h2 := b1.book h1
  have m2 := b1.net m1
  refine ⟨120, l_bd2 hS 120 0 M2 (by omega) (by omega) h2 m2 (fun d hd => ?_) (fun d g0 g1 => b2 d g1) (fun M3 c1 c2 => ?_)⟩
  · have e : d = 0 := by omega
    subst e
    exact b2 0 (by omega)
  have h3 := c1.book h2
  have m3 := c1.net m2
  refine ⟨120, l_bd3 hS 120 119 M3 (by omega) (by omega) h3 m3 (fun d hd => c2 d (by omega)) (fun d g0 g1 => ?_) (fun M4 d1 d2 => hk M4 (fun c q1 q2 => by rw [d1 c q1 q2, c1 c q1 q2, b1 c q1 q2, a1 c q1 q2]) d2)⟩
  have e : d = 119 := by omega
  subst e
  exact c2 119 (by omega)
/-! the logs that count -/
def cxR (B : Int → Int) (kn : Int) : Nat → Nat
  | 0 => 0
  | n + 1 => if B (508 + 9 * (n : Int)) ≤ kn ∧ B (510 + 9 * (n : Int)) = 0 then cxR B kn n ||| 2 ^ n else cxR B kn n
theorem cxR_lt (B : Int → Int) (kn : Int) : ∀ n : Nat, cxR B kn n < 2 ^ n
  | 0 => by show 0 < 2 ^ 0; decide
  | n + 1 => by
    have ih := cxR_lt B kn n
    have e : 2 ^ (n + 1) = 2 ^ n + 2 ^ n := by rw [Nat.pow_succ]; omega
    unfold cxR
    split
    · exact Nat.or_lt_two_pow (by omega) (by rw [e]; have := Nat.two_pow_pos n; omega)
    · omega
theorem cxR_bit (B : Int → Int) (kn : Int) (i : Nat) : ∀ n : Nat, (cxR B kn n).testBit i = true ↔ i < n ∧ (B (508 + 9 * (i : Int)) ≤ kn ∧ B (510 + 9 * (i : Int)) = 0)
  | 0 => by
    show (0 : Nat).testBit i = true ↔ _
    simp
  | n + 1 => by
    have ih := cxR_bit B kn i n
    unfold cxR
    by_cases c : B (508 + 9 * (n : Int)) ≤ kn ∧ B (510 + 9 * (n : Int)) = 0
    · rw [if_pos c, Nat.testBit_or, Bool.or_eq_true, ih, Nat.testBit_two_pow, decide_eq_true_eq]
      constructor
      · rintro (⟨h1, h2⟩ | h1)
        · exact ⟨by omega, h2⟩
        · subst h1; exact ⟨by omega, c⟩
      · rintro ⟨h1, h2⟩
        by_cases q : n = i
        · exact Or.inr q
        · exact Or.inl ⟨by omega, h2⟩
    · rw [if_neg c, ih]
      constructor
      · rintro ⟨h1, h2⟩; exact ⟨by omega, h2⟩
      · rintro ⟨h1, h2⟩
        by_cases q : n = i
        · subst q; exact absurd h2 c
        · exact ⟨by omega, h2⟩
theorem cnt_and (kn : Int) : cxR B kn (B 724).toNat &&& rb B s = cnt B s kn := by
  apply Nat.eq_of_testBit_eq
  intro i
  rw [Nat.testBit_and]
  have h1 := cxR_bit B kn i (B 724).toNat
  have h2 := rbR_bit B s i (B 724).toNat
  have h3 := cntR_bit B s kn i (B 724).toNat
  unfold rb cnt
  unfold cntC at h3
  rw [Bool.eq_iff_iff, Bool.and_eq_true, h1, h2, h3]
  constructor
  · rintro ⟨⟨x1, x2, x3⟩, -, x4, x5⟩; exact ⟨x1, x4, x2, x3, x5⟩
  · rintro ⟨x1, x4, x2, x3, x5⟩; exact ⟨⟨x1, x2, x3⟩, x1, x4, x5⟩
theorem cnt_lgs {b : Mm} (n : BkN b B) (kn : Int) : Lgs B s (cnt B s kn) := by
  intro l hl
  have h3 := (cntR_bit B s kn l (B 724).toNat).mp hl
  have := n.2.2.2
  exact ⟨by omega, h3.2.1, h3.2.2.2.2⟩
theorem l_cx {Q : Int → Mm → Prop} {M : Mm} {N : Nat} {kn : Int} (h : BkR M B) (hn : Nt M B s) (hkn : inR kn) (hN : B 724 = (N : Int)) (hk : Q (cnt B s kn : Nat) M) : ∀ (f j : Nat), j ≤ N → N - j < f → wX6_counting_13 Q kn f (cxR B kn j : Nat) (j : Int) M := by
  have n3 := h.1.2.2.2
  intro f
  induction f with
  | zero => intro j h1 h2; omega
  | succ f ih =>
    intro j h1 h2
    unfold wX6_counting_13
    rw [n3.1, hN]
    refine ⟨(inRof ⟨by omega, by omega⟩), (inRof ⟨by omega, by omega⟩), ?_⟩
    have hlt := cxR_lt B kn j
    have hp : 2 ^ j ≤ 2 ^ 24 := Nat.pow_le_pow_right (by decide) (by omega)
    by_cases c : (j : Int) < (N : Int)
    · rw [if_pos c]
      obtain ⟨⟨-, -, -, -, -, e21, -, e23⟩, r1, r2, r3, r4, r5, r6, r7, r8⟩ := h.2.2.2.2.2.2.1 (j : Int) (by omega) (by omega)
      have ih := ih (j + 1) (by omega) (by omega)
      have step : cxR B kn (j + 1) = if B (508 + 9 * (j : Int)) ≤ kn ∧ B (510 + 9 * (j : Int)) = 0 then cxR B kn j ||| 2 ^ j else cxR B kn j := rfl
      rw [e21, e23]
      refine ⟨⟨by omega, by omega⟩, (inRof ⟨by omega, by omega⟩), hkn, ?_⟩
      by_cases c1 : B (508 + 9 * (j : Int)) ≤ kn
      · rw [if_pos c1]
        refine ⟨(inRof ⟨by omega, by omega⟩), ?_⟩
        by_cases c2 : B (510 + 9 * (j : Int)) = 0
        · rw [if_pos c2]
          rw [step, if_pos ⟨c1, c2⟩] at ih
          rw [shl1 (by omega), lorN (by omega) (by omega)]
          exact ih
        · rw [if_neg c2]
          rw [step, if_neg (fun q => c2 q.2)] at ih
          exact ih
      · rw [if_neg c1]
        rw [step, if_neg (fun q => c1 q.1)] at ih
        exact ih
    · rw [if_neg c]
      unfold wX6_counting_56
      have e : j = (B 724).toNat := by omega
      have hrb := rbR_lt B s (B 724).toNat
      have hp2 : 2 ^ (B 724).toNat ≤ 2 ^ 24 := Nat.pow_le_pow_right (by decide) (by omega)
      have hrb' : rb B s < 2 ^ (B 724).toNat := hrb
      rw [hn.2.1, landN (by omega) (by omega), e, cnt_and]
      exact hk
theorem b_cx {M : Mm} {kn : Int} (h : BkR M B) (hn : Nt M B s) (hkn : inR kn) (hk : k (cnt B s kn : Nat) M) : Bd (wX6_counting kn M) k := by
  have n3 := h.1.2.2.2
  obtain ⟨N, hN⟩ := Int.eq_ofNat_of_zero_le n3.2.1
  apply Bd.of; unfold wX6_counting
  exact ⟨25, l_cx h hn hkn hN hk 25 0 (by omega) (by omega)⟩
end Bind
