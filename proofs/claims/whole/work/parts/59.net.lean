/-! ===== Net: readings, load ===== -/
theorem lxor_neg {x y : Int} (hx : inR x) (hy : 0 ≤ y ∧ y ≤ 2147483647) : lxorI x y < 0 ↔ x < 0 := by
  unfold lxorI
  have ex : (Int32.ofInt x).toBitVec.toInt = x := t32 hx
  have ey : (Int32.ofInt y).toBitVec.toInt = y := t32 (inRof ⟨by omega, by omega⟩)
  have h := BitVec.msb_xor (x := (Int32.ofInt x).toBitVec) (y := (Int32.ofInt y).toBitVec)
  rw [BitVec.msb_eq_toInt, BitVec.msb_eq_toInt, BitVec.msb_eq_toInt, ex, ey] at h
  have e : (Int32.ofInt x ^^^ Int32.ofInt y).toInt = ((Int32.ofInt x).toBitVec ^^^ (Int32.ofInt y).toBitVec).toInt := rfl
  rw [e]
  have hy' : decide (y < 0) = false := decide_eq_false (by omega)
  rw [hy', Bool.xor_false] at h
  exact decide_eq_decide.mp h
theorem b_fdiv {M : Mm} {k : Int → Mm → Prop} {x y : Int} (hx : inR x) (hy : 0 < y ∧ y ≤ 2147483647) (hk : k (x / y) M) : Bd (wJ9_floorDiv_7cf53 x y M) k := by
  apply Bd.of; unfold wJ9_floorDiv_7cf53
  have x0 := hx.1
  have x1 := hx.2
  refine ⟨hx, inRof ⟨by omega, by omega⟩, by omega, ?_⟩
  by_cases c : lxorI x y < 0
  · rw [if_pos c]
    have hx0 := (lxor_neg hx ⟨by omega, hy.2⟩).mp c
    have et : Int.tdiv (-(-x)) y = -((-x) / y) := by rw [Int.neg_tdiv, Int.tdiv_eq_ediv_of_nonneg (by omega)]
    rw [Int.neg_neg] at et
    have hm0 := Int.emod_nonneg (-x) (show y ≠ 0 by omega)
    have hm1 := Int.emod_lt_of_pos (-x) hy.1
    rw [Int.emod_def] at hm0 hm1
    have hq : 0 ≤ (-x) / y := Int.ediv_nonneg (by omega) (by omega)
    rw [et]
    generalize (-x) / y = q at *
    have hp : 0 ≤ y * q := Int.mul_nonneg (by omega) hq
    rw [Int.neg_mul, Int.mul_comm q y]
    refine ⟨inRof ⟨by omega, by omega⟩, ?_⟩
    by_cases c2 : -(y * q) = x
    · rw [if_pos c2]
      have e : x / y = -q := by
        rw [← c2, ← Int.mul_neg]
        exact Int.mul_ediv_cancel_left _ (by omega)
      rw [e] at hk
      exact hk
    · rw [if_neg c2]
      have h1 : -q - 1 ≤ x / y := (Int.le_ediv_iff_mul_le hy.1).mpr (by rw [Int.sub_mul, Int.neg_mul, Int.one_mul, Int.mul_comm q y]; omega)
      have h2 : x / y < -q := (Int.ediv_lt_iff_lt_mul hy.1).mpr (by rw [Int.neg_mul, Int.mul_comm q y]; omega)
      rw [show x / y = -q - 1 by omega] at hk
      exact hk
  · rw [if_neg c]
    have hx0 : ¬ x < 0 := fun z => c ((lxor_neg hx ⟨by omega, hy.2⟩).mpr z)
    rw [Int.tdiv_eq_ediv_of_nonneg (by omega)]
    exact hk
theorem ediv_bd {x y C : Int} (hy : 0 < y) (hx : -C ≤ x ∧ x ≤ C) : -C ≤ x / y ∧ x / y ≤ C := by
  have h1 : C * 1 ≤ C * y := Int.mul_le_mul_of_nonneg_left (by omega) (by omega)
  constructor
  · exact (Int.le_ediv_iff_mul_le hy).mpr (by rw [Int.neg_mul]; omega)
  · have : x / y < C + 1 := (Int.ediv_lt_iff_lt_mul hy).mpr (by rw [Int.add_mul, Int.one_mul]; omega)
    omega
/-- the days as the net holds them -/
def NtA (M : Mm) (B : Int → Int) (s : Int) : Prop := M 72 1 = s ∧ ∀ d, 0 ≤ d → d < 120 → (M 73 d = leg B s d ∧ M 74 d = spd B s d ∧ M 75 d = byT B s d 0 ∧ M 76 d = byT B s d 1 ∧ M 77 d = capD B s d ∧ M 78 d = cutD B s d)
def rbR (B : Int → Int) (s : Int) : Nat → Nat
  | 0 => 0
  | n + 1 => if B (503 + 9 * (n : Int)) = s ∧ rd B (n : Int) 0 ≠ -1 then rbR B s n ||| 2 ^ n else rbR B s n
/-- the logs of the ship that can be read, as bits -/
def rb (B : Int → Int) (s : Int) : Nat := rbR B s (B 724).toNat
theorem rbR_lt (B : Int → Int) (s : Int) : ∀ n : Nat, rbR B s n < 2 ^ n
  | 0 => by show 0 < 2 ^ 0; decide
  | n + 1 => by
    have ih := rbR_lt B s n
    have e : 2 ^ (n + 1) = 2 ^ n + 2 ^ n := by rw [Nat.pow_succ]; omega
    show (if _ then rbR B s n ||| 2 ^ n else rbR B s n) < 2 ^ (n + 1)
    split
    · exact Nat.or_lt_two_pow (by omega) (by rw [e]; have := Nat.two_pow_pos n; omega)
    · omega
theorem rbR_bit (B : Int → Int) (s : Int) (i : Nat) : ∀ n : Nat, (rbR B s n).testBit i = true ↔ i < n ∧ (B (503 + 9 * (i : Int)) = s ∧ rd B (i : Int) 0 ≠ -1)
  | 0 => by
    show (0 : Nat).testBit i = true ↔ _
    simp
  | n + 1 => by
    have ih := rbR_bit B s i n
    show (if B (503 + 9 * (n : Int)) = s ∧ rd B (n : Int) 0 ≠ -1 then rbR B s n ||| 2 ^ n else rbR B s n).testBit i = true ↔ _
    by_cases c : B (503 + 9 * (n : Int)) = s ∧ rd B (n : Int) 0 ≠ -1
    · rw [if_pos c, Nat.testBit_or, Bool.or_eq_true, ih, Nat.testBit_two_pow, decide_eq_true_eq]
      constructor
      · rintro (⟨h1, h2⟩ | h1)
        · exact ⟨by omega, h2⟩
        · subst h1; exact ⟨by omega, c⟩
      · rintro ⟨h1, h2⟩
        by_cases q : n = i
        · exact Or.inr q
        · exact Or.inl ⟨by omega, h2⟩
    · rw [if_neg c, ih]
      constructor
      · rintro ⟨h1, h2⟩; exact ⟨by omega, h2⟩
      · rintro ⟨h1, h2⟩
        by_cases q : n = i
        · subst q; exact absurd h2 c
        · exact ⟨by omega, h2⟩
/-- days and readings as the net holds them for ship s -/
def Nt (M : Mm) (B : Int → Int) (s : Int) : Prop := NtA M B s ∧ M 72 8 = (rb B s : Nat) ∧ ∀ l, 0 ≤ l → l < B 724 → B (503 + 9 * l) = s → M 79 l = rd B l 0 ∧ M 80 l = rd B l 1
section Net
variable {M : Mm} {B : Int → Int} {s d l w z : Int} {k : Int → Mm → Prop} {kv : Mm → Prop}
theorem NtA_up {c : Nat} {i v : Int} (h : NtA M B s) (hc : c < 73 ∨ 78 < c) (h2 : c ≠ 72 ∨ i ≠ 1) : NtA (up M c i v) B s := by
  refine ⟨?_, fun d h0 h1 => ?_⟩
  · by_cases q : c = 72
    · subst q
      rw [up_nei (by omega)]
      exact h.1
    · rw [up_ne (by omega)]
      exact h.1
  · rw [up_ne (by omega), up_ne (by omega), up_ne (by omega), up_ne (by omega), up_ne (by omega), up_ne (by omega)]
    exact h.2 d h0 h1
theorem b_por (h : BkR M B) (hs : 0 ≤ s ∧ s < B 721) (hn : NtA M B s) (hd : 0 ≤ d ∧ d < 120) (hw : w = 0 ∨ w = 1 ∨ w = 2 ∨ w = 3) (hk : k (prt B s d z w) M) : Bd (wX6_portion w d z M) k := by
  apply Bd.of; unfold wX6_portion
  have n0 := h.1.1
  have n1 := h.1.2.1
  have hl := leg_facts (s := s) (d := d) h.1
  have hv := spd_range (s := s) (d := d) h
  obtain ⟨e73, e74, -⟩ := hn.2 d hd.1 hd.2
  rw [e73, e74, hn.1]
  refine ⟨hd, inRof ⟨by omega, by omega⟩, ?_⟩
  unfold prt at hk
  by_cases c : spd B s d = 0
  · rw [if_pos c]
    rw [c] at hk
    have e : (if w = 0 then (0 : Int) * 0 * B s else if w = 1 then onD B s d 4 * onD B s d 4 * 0 else if w = 2 then onD B s d 5 * 0 else 0 * 0 * z) = 0 := by
      rw [Int.mul_zero, Int.mul_zero, Int.mul_zero, Int.zero_mul, Int.zero_mul]
      rcases hw with q | q | q | q
      · rw [if_pos q]
      · rw [if_neg (by omega), if_pos q]
      · rw [if_neg (by omega), if_neg (by omega), if_pos q]
      · rw [if_neg (by omega), if_neg (by omega), if_neg (by omega)]
    rw [e] at hk
    exact hk
  · rw [if_neg c]
    have q : leg B s d ≠ -1 := fun q => c (by unfold spd onD; rw [if_pos q])
    refine ⟨inRof ⟨by omega, by omega⟩, ?_⟩
    rw [if_neg q]
    obtain ⟨⟨-, -, -, -, e13, e14⟩, -⟩ := h.2.2.2.2.1 (leg B s d) (by omega) (by omega)
    have o4 : onD B s d 4 = B (27 + 6 * leg B s d) := by unfold onD; rw [if_neg q, show 23 + 6 * leg B s d + 4 = 27 + 6 * leg B s d by omega]
    have o5 : onD B s d 5 = B (28 + 6 * leg B s d) := by unfold onD; rw [if_neg q, show 23 + 6 * leg B s d + 5 = 28 + 6 * leg B s d by omega]
    rw [o4, o5] at hk
    rw [e13, e14, (h.2.2.1 s hs.1 hs.2).1]
    refine ⟨inRof ⟨by omega, by omega⟩, ?_⟩
    rcases hw with c1 | c1 | c1 | c1
    · rw [if_pos c1] at hk
      rw [if_pos c1]
      exact ⟨⟨hs.1, by omega⟩, hk⟩
    · rw [if_neg (by omega), if_pos c1] at hk
      rw [if_neg (by omega), if_pos c1]
      exact ⟨⟨by omega, by omega⟩, hk⟩
    · rw [if_neg (by omega), if_neg (by omega), if_pos c1] at hk
      rw [if_neg (by omega), if_neg (by omega), if_pos c1]
      exact ⟨⟨by omega, by omega⟩, hk⟩
    · rw [if_neg (by omega), if_neg (by omega), if_neg (by omega)] at hk
      rw [if_neg (by omega), if_neg (by omega), if_neg (by omega)]
      exact hk
theorem b_nful (h : BkR M B) (hs : 0 ≤ s ∧ s < B 721) (hn : NtA M B s) (hd : 0 ≤ d ∧ d < 120) (hz : 0 ≤ z ∧ z ≤ 1000) (hk : k (ful B s d z) M) : Bd (wX6_fuel d z M) k := by
  apply Bd.of; unfold wX6_fuel
  have hp := prt_range (d := d) h hs hz
  have s4 : wX6_fuel_5 k d z 1 (0 + prt B s d z 0 + prt B s d z 1 + prt B s d z 2 + prt B s d z 3) 4 M := by
    unfold wX6_fuel_5
    refine ⟨inRof ⟨by omega, by omega⟩, ?_⟩
    rw [if_neg (by decide), Int.zero_add]
    refine ⟨inRof ⟨by omega, by omega⟩, ?_⟩
    rw [Int.tdiv_eq_ediv_of_nonneg (by omega)]
    exact hk
  have s3 : wX6_fuel_5 k d z 2 (0 + prt B s d z 0 + prt B s d z 1 + prt B s d z 2) 3 M := by
    unfold wX6_fuel_5
    refine ⟨inRof ⟨by omega, by omega⟩, ?_⟩
    rw [if_pos (by decide)]
    exact b_por h hs hn hd (Or.inr (Or.inr (Or.inr rfl))) s4
  have s2 : wX6_fuel_5 k d z 3 (0 + prt B s d z 0 + prt B s d z 1) 2 M := by
    unfold wX6_fuel_5
    refine ⟨inRof ⟨by omega, by omega⟩, ?_⟩
    rw [if_pos (by decide)]
    exact b_por h hs hn hd (Or.inr (Or.inr (Or.inl rfl))) s3
  have s1 : wX6_fuel_5 k d z 4 (0 + prt B s d z 0) 1 M := by
    unfold wX6_fuel_5
    refine ⟨inRof ⟨by omega, by omega⟩, ?_⟩
    rw [if_pos (by decide)]
    exact b_por h hs hn hd (Or.inr (Or.inl rfl)) s2
  refine ⟨5, ?_⟩
  unfold wX6_fuel_5
  refine ⟨inRof ⟨by omega, by omega⟩, ?_⟩
  rw [if_pos (by decide)]
  exact b_por h hs hn hd (Or.inl rfl) s1
theorem b_keepR {lo hi : Int} (hl : 0 ≤ l ∧ l < 24) (hlo : inR lo) (hhi : inR hi) (hk : lo ≤ hi → kv (up (up (up M 79 l lo) 80 l hi) 72 8 (lorI (M 72 8) (shlI 1 l)))) (hk0 : ¬ lo ≤ hi → kv (up (up M 79 l (-1)) 80 l (-1))) : Bv (wX6_keepReading l lo hi M) kv := by
  apply Bv.of; unfold wX6_keepReading
  refine ⟨hlo, hhi, ?_⟩
  by_cases c : lo ≤ hi
  · rw [if_pos c]
    unfold wX6_keepReading_10
    refine ⟨inR1, ?_⟩
    rw [if_neg (by decide)]
    unfold wX6_keepReading_27
    refine ⟨hl, inR1, ?_⟩
    rw [if_neg (by decide)]
    unfold wX6_keepReading_43
    refine ⟨hl, inR1, ?_⟩
    rw [if_neg (by decide), up_ne (by decide)]
    exact hk c
  · rw [if_neg c]
    unfold wX6_keepReading_10
    refine ⟨inR0, ?_⟩
    rw [if_pos rfl]
    unfold wX6_keepReading_27
    refine ⟨hl, inR0, ?_⟩
    rw [if_pos rfl]
    unfold wX6_keepReading_43
    refine ⟨hl, inR0, ?_⟩
    rw [if_pos rfl]
    exact hk0 c
theorem b_readFuel (h : BkR M B) (hl : 0 ≤ l ∧ l < B 724) (hs : B (503 + 9 * l) = s) (hn : NtA M B s) (h0 : B (509 + 9 * l) = 0) (hk : rd B l 0 ≠ -1 → kv (up (up (up M 79 l (rd B l 0)) 80 l (rd B l 1)) 72 8 (lorI (M 72 8) (shlI 1 l)))) (hk0 : rd B l 0 = -1 → kv (up (up M 79 l (-1)) 80 l (-1))) : Bv (wX6_readFuel l (B (504 + 9 * l)) (B (505 + 9 * l)) (B (506 + 9 * l)) M) kv := by
  obtain ⟨-, r1, r2, r3, r4, -⟩ := h.2.2.2.2.2.2.1 l hl.1 hl.2
  have n3 := h.1.2.2.2
  have hrs : 0 ≤ s ∧ s < B 721 := by omega
  have hd : 0 ≤ B (504 + 9 * l) ∧ B (504 + 9 * l) < 120 := by omega
  have hp := prt_range (d := B (504 + 9 * l)) h hrs (show 0 ≤ (0 : Int) ∧ (0 : Int) ≤ 1000 by omega)
  have hS := rdS_range (l := l) h
  have e74 : M 74 (B (504 + 9 * l)) = rdS B l := by
    rw [(hn.2 (B (504 + 9 * l)) hd.1 hd.2).2.1]
    unfold rdS
    rw [hs]
  have eW : rdW B l = prt B s (B (504 + 9 * l)) 0 0 + prt B s (B (504 + 9 * l)) 0 1 + prt B s (B (504 + 9 * l)) 0 2 := by unfold rdW; rw [hs]
  apply Bv.of; unfold wX6_readFuel
  rw [e74]
  have v2 := mulb (a := rdS B l) (b := rdS B l) (A := 30) (B := 30) hS.1 hS.2 (by omega) hS.2 (by omega)
  have v20 : 0 ≤ rdS B l * rdS B l := Int.mul_nonneg hS.1 hS.1
  refine ⟨hd, inRof ⟨by omega, by omega⟩, ?_⟩
  have g0 : rd B l 0 = if rdS B l = 0 then -1 else if rdlo B l ≤ rdhi B l then rdlo B l else -1 := by
    unfold rd
    rw [if_neg (by omega), if_neg (show ¬ (0 : Int) = 1 by decide)]
  have g1 : rd B l 1 = if rdS B l = 0 then -1 else if rdlo B l ≤ rdhi B l then rdhi B l else -1 := by
    unfold rd
    rw [if_neg (by omega), if_pos (show (1 : Int) = 1 from rfl)]
  by_cases c : rdS B l = 0
  · rw [if_pos (by rw [c]; rfl)]
    rw [if_pos c] at g0
    exact b_keepR (by omega) inR1 inR0 (fun q => absurd q (by decide)) (fun _ => hk0 g0)
  · rw [if_neg (fun q => c (by rcases Int.mul_eq_zero.mp q with q | q <;> exact q))]
    rw [if_neg c] at g0 g1
    have hpos : 0 < rdS B l * rdS B l := Int.mul_pos (by omega) (by omega)
    refine b_por h hrs hn hd (Or.inl rfl) ?_
    refine b_por h hrs hn hd (Or.inr (Or.inl rfl)) ?_
    refine b_por h hrs hn hd (Or.inr (Or.inr (Or.inl rfl))) ?_
    rw [← eW]
    refine b_fdiv (inRof ⟨by omega, by omega⟩) (by omega) ?_
    refine b_fdiv (inRof ⟨by omega, by omega⟩) (by omega) ?_
    have d1 := ediv_bd (x := rdW B l - 100 * (B (505 + 9 * l) - B (506 + 9 * l))) (C := 20000000) hpos (by omega)
    have d2 := ediv_bd (x := 100 * (B (505 + 9 * l) + B (506 + 9 * l)) + 99 - rdW B l) (C := 20000000) hpos (by omega)
    refine b_max (inRof ⟨by omega, by omega⟩) inR0 ?_
    refine b_min (inRof ⟨by omega, by omega⟩) (inRof ⟨by omega, by omega⟩) ?_
    have lo0 : 0 ≤ rdlo B l ∧ rdlo B l ≤ 20000000 := by unfold rdlo; omega
    have hi0 : -20000000 ≤ rdhi B l ∧ rdhi B l ≤ 1000 := by unfold rdhi; omega
    show Bv (wX6_keepReading l (rdlo B l) (rdhi B l) M) _
    refine b_keepR (by omega) (inRof ⟨by omega, by omega⟩) (inRof ⟨by omega, by omega⟩) (fun q => ?_) (fun q => ?_)
    · rw [if_pos q] at g0 g1
      have hk := hk (by omega)
      rw [g0, g1] at hk
      exact hk
    · rw [if_neg q] at g0
      exact hk0 g0
theorem l_rl {Q : Mm → Prop} {N : Nat} (hs : 0 ≤ s ∧ s < B 721) (hN : B 724 = (N : Int)) : ∀ (f j : Nat) (M : Mm), j ≤ N → N - j < f → BkR M B → NtA M B s → M 72 8 = (rbR B s j : Nat) → (∀ l, 0 ≤ l → l < (j : Int) → B (503 + 9 * l) = s → M 79 l = rd B l 0 ∧ M 80 l = rd B l 1) → (∀ M', (∀ c : Nat, c ≠ 72 → c ≠ 79 → c ≠ 80 → M' c = M c) → (∀ x, x ≠ 8 → M' 72 x = M 72 x) → Nt M' B s → Q M') → wX6_readLogs_15 Q f (j : Int) M := by
  intro f
  induction f with
  | zero => intro j M h1 h2; omega
  | succ f ih =>
    intro j M h1 h2 h hn h8 hcur hk
    have n0 := h.1.1
    have n3 := h.1.2.2.2
    unfold wX6_readLogs_15
    rw [n3.1, hN, hn.1]
    refine ⟨inRof ⟨by omega, by omega⟩, inRof ⟨by omega, by omega⟩, ?_⟩
    by_cases c : (j : Int) < (N : Int)
    · rw [if_pos c]
      have hl : 0 ≤ (j : Int) ∧ (j : Int) < B 724 := by omega
      obtain ⟨⟨e16, e17, e18, e19, -, -, e22, -⟩, r1, r2, r3, r4, r5, r6, r7, r8⟩ := h.2.2.2.2.2.2.1 (j : Int) hl.1 hl.2
      rw [e16, e17, e18, e19, e22]
      refine ⟨⟨by omega, by omega⟩, inRof ⟨by omega, by omega⟩, inRof ⟨by omega, by omega⟩, ?_⟩
      have step : rbR B s (j + 1) = if B (503 + 9 * (j : Int)) = s ∧ rd B (j : Int) 0 ≠ -1 then rbR B s j ||| 2 ^ j else rbR B s j := rfl
      by_cases c1 : B (503 + 9 * (j : Int)) = s
      · rw [if_pos c1]
        refine ⟨inRof ⟨by omega, by omega⟩, ?_⟩
        have hb := rd_range h hl
        have nx1 : rd B (j : Int) 0 ≠ -1 → wX6_readLogs_15 Q f ((j : Int) + 1) (up (up (up M 79 (j : Int) (rd B (j : Int) 0)) 80 (j : Int) (rd B (j : Int) 1)) 72 8 (lorI (M 72 8) (shlI 1 (j : Int)))) := by
          intro q
          refine ih (j + 1) _ (by omega) (by omega) (BkR_up (BkR_up (BkR_up h (by decide)) (by decide)) (by decide)) (NtA_up (NtA_up (NtA_up hn (Or.inr (by decide)) (Or.inl (by decide))) (Or.inr (by decide)) (Or.inl (by decide))) (Or.inl (by decide)) (Or.inr (by decide))) ?_ (fun x x0 x1 xs => ?_) (fun M' k1 k2 k3 => hk M' (fun c' q1 q2 q3 => by rw [k1 c' q1 q2 q3, up_cell q1, up_cell q3, up_cell q2]) (fun x hx => by rw [k2 x hx, up_nei hx, up_ne (by decide), up_ne (by decide)]) k3)
          · have hlt := rbR_lt B s j
            have hp : 2 ^ j ≤ 2 ^ 24 := Nat.pow_le_pow_right (by decide) (by omega)
            rw [up_eq, h8, shl1 (by omega), lorN (by omega) (by omega), step, if_pos ⟨c1, q⟩]
          · by_cases qx : x = (j : Int)
            · subst qx
              rw [up_ne (by decide), up_ne (by decide), up_eq, up_ne (by decide), up_eq]
              exact ⟨rfl, rfl⟩
            · rw [up_ne (by decide), up_ne (by decide), up_nei qx, up_ne (by decide), up_nei qx, up_ne (by decide)]
              exact hcur x x0 (by omega) xs
        have nx0 : rd B (j : Int) 0 = -1 → wX6_readLogs_15 Q f ((j : Int) + 1) (up (up M 79 (j : Int) (-1)) 80 (j : Int) (-1)) := by
          intro q
          refine ih (j + 1) _ (by omega) (by omega) (BkR_up (BkR_up h (by decide)) (by decide)) (NtA_up (NtA_up hn (Or.inr (by decide)) (Or.inl (by decide))) (Or.inr (by decide)) (Or.inl (by decide))) ?_ (fun x x0 x1 xs => ?_) (fun M' k1 k2 k3 => hk M' (fun c' q1 q2 q3 => by rw [k1 c' q1 q2 q3, up_cell q3, up_cell q2]) (fun x hx => by rw [k2 x hx, up_ne (by decide), up_ne (by decide)]) k3)
          · rw [up_ne (by decide), up_ne (by decide), h8, step, if_neg (fun z => z.2 q)]
          · by_cases qx : x = (j : Int)
            · subst qx
              rw [up_ne (by decide), up_eq, up_eq]
              omega
            · rw [up_ne (by decide), up_nei qx, up_nei qx, up_ne (by decide)]
              exact hcur x x0 (by omega) xs
        by_cases c2 : B (509 + 9 * (j : Int)) = 0
        · rw [if_pos c2]
          exact b_readFuel h hl c1 hn c2 nx1 nx0
        · rw [if_neg c2]
          have c3 : B (509 + 9 * (j : Int)) = 1 := by omega
          have g0 : rd B (j : Int) 0 = if B (505 + 9 * (j : Int)) ≤ B (506 + 9 * (j : Int)) then B (505 + 9 * (j : Int)) else -1 := by
            unfold rd
            rw [if_pos c3, show 505 + 9 * (j : Int) + 0 = 505 + 9 * (j : Int) by omega]
          have g1 : rd B (j : Int) 1 = if B (505 + 9 * (j : Int)) ≤ B (506 + 9 * (j : Int)) then B (506 + 9 * (j : Int)) else -1 := by
            unfold rd
            rw [if_pos c3, show 505 + 9 * (j : Int) + 1 = 506 + 9 * (j : Int) by omega]
          refine b_keepR (by omega) (inRof ⟨by omega, by omega⟩) (inRof ⟨by omega, by omega⟩) (fun q => ?_) (fun q => ?_)
          · rw [if_pos q] at g0 g1
            have nx1 := nx1 (by omega)
            rw [g0, g1] at nx1
            exact nx1
          · rw [if_neg q] at g0
            exact nx0 g0
      · rw [if_neg c1]
        refine ih (j + 1) _ (by omega) (by omega) h hn ?_ (fun x x0 x1 xs => ?_) hk
        · rw [h8, step, if_neg (fun z => c1 z.1)]
        · by_cases qx : x = (j : Int)
          · subst qx; exact absurd xs c1
          · exact hcur x x0 (by omega) xs
    · rw [if_neg c]
      rw [show j = N by omega] at h8 hcur
      refine hk M (fun _ _ _ _ => rfl) (fun _ _ => rfl) ⟨hn, ?_, fun x x0 x1 xs => hcur x x0 (by omega) xs⟩
      unfold rb
      rw [hN]
      exact h8
theorem b_load (h : BkR M B) (hs : 0 ≤ s ∧ s < B 721) (hk : ∀ M', (∀ c : Nat, c < 72 ∨ 80 < c → M' c = M c) → (∀ x, x ≠ 1 → x ≠ 8 → M' 72 x = M 72 x) → BkR M' B → Nt M' B s → kv M') : Bv (wX6_load s M) kv := by
  have n0 := h.1.1
  have n3 := h.1.2.2.2
  have hr : inR s := inRof ⟨by omega, by omega⟩
  apply Bv.of; unfold wX6_load
  refine b_findLegs (B := B) (s := s) (BkR_up h (by decide)) up_eq hr (fun M1 a1 a2 => ?_)
  have c1 : BkR M1 B := BkR_congr (fun c h1 h2 x _ _ => by rw [a1 c (by omega), up_ne (by omega)]) (fun _ _ _ => rfl) h
  refine b_findLaws (s := s) c1 a2 (fun M2 b1 b2 => ?_)
  have c2 : BkR M2 B := BkR_congr (fun c h1 h2 x _ _ => by rw [b1 c (by omega) (by omega) (by omega)]) (fun _ _ _ => rfl) c1
  have s2 : M2 72 1 = s := by rw [b1 72 (by decide) (by decide) (by decide), a1 72 (by decide), up_eq]
  refine b_findCleanings (s := s) c2 s2 hr (fun M3 d1 d2 => ?_)
  have c3 : BkR M3 B := BkR_congr (fun c h1 h2 x _ _ => by rw [d1 c (by omega) (by omega)]) (fun _ _ _ => rfl) c2
  have s3 : M3 72 1 = s := by rw [d1 72 (by decide) (by decide)]; exact s2
  have na : NtA M3 B s := by
    refine ⟨s3, fun d g0 g1 => ?_⟩
    rw [d1 73 (by decide) (by decide), d1 74 (by decide) (by decide), d1 75 (by decide) (by decide), d1 76 (by decide) (by decide), b1 73 (by decide) (by decide) (by decide)]
    exact ⟨a2 d g0 g1, (b2 d g0 g1).1, (b2 d g0 g1).2.1, (b2 d g0 g1).2.2, (d2 d g0 g1).1, (d2 d g0 g1).2⟩
  apply Bv.of; unfold wX6_readLogs
  obtain ⟨N, hN⟩ := Int.eq_ofNat_of_zero_le n3.2.1
  have hN' : B 724 = (N : Int) := hN
  refine ⟨25, l_rl (N := N) hs hN' 25 0 (up M3 72 8 0) (by omega) (by omega) (BkR_up c3 (by decide)) (NtA_up na (Or.inl (by decide)) (Or.inr (by decide))) up_eq (fun x x0 x1 _ => by omega) (fun M' k1 k2 k3 => hk M' (fun c hc => ?_) (fun x x1 x8 => ?_) ?_ k3)⟩
  · rw [k1 c (by omega) (by omega) (by omega), up_cell (by omega), d1 c (by omega) (by omega), b1 c (by omega) (by omega) (by omega), a1 c (by omega), up_cell (by omega)]
  · rw [k2 x x8, up_nei x8, d1 72 (by decide) (by decide), b1 72 (by decide) (by decide) (by decide), a1 72 (by decide), up_nei x1]
  · exact BkR_congr (fun c h1 h2 x _ _ => by rw [k1 c (by omega) (by omega) (by omega), up_ne (by omega)]) (fun _ _ _ => rfl) c3
end Net
