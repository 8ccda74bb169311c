/-! ===== the invariant ===== -/
/-- counts: ships, legs, cleanings, logs -/
def BkN (b : Mm) (B : Int → Int) : Prop := (b 1 0 = B 721 ∧ 0 ≤ B 721 ∧ B 721 ≤ 3) ∧ (b 8 0 = B 722 ∧ 0 ≤ B 722 ∧ B 722 ≤ 60) ∧ (b 1 1 = B 723 ∧ 0 ≤ B 723 ∧ B 723 ≤ 40) ∧ (b 15 0 = B 724 ∧ 0 ≤ B 724 ∧ B 724 ≤ 24)
/-- price and fee -/
def BkT (b : Mm) (B : Int → Int) : Prop := (b 1 2 = B 719 ∧ 0 ≤ B 719 ∧ B 719 ≤ 1000) ∧ (b 1 3 = B 720 ∧ 0 ≤ B 720 ∧ B 720 ≤ 100000)
/-- bases -/
def BkB (b : Mm) (B : Int → Int) : Prop := ∀ i, 0 ≤ i → i < B 721 → b 2 i = B i ∧ 0 ≤ B i ∧ B i ≤ 1000
/-- laws -/
def BkL (b : Mm) (B : Int → Int) : Prop := (∀ i, 0 ≤ i → i < 6 → b 3 i = B (3 + i) ∧ b 4 i = B (9 + i) ∧ -100 ≤ B (3 + i) ∧ B (3 + i) ≤ B (9 + i) ∧ B (9 + i) ≤ 100) ∧ (∀ i, 0 ≤ i → i < 4 → b 3 (6 + i) = B (15 + i) ∧ b 4 (6 + i) = B (19 + i) ∧ -100 ≤ B (15 + i) ∧ B (15 + i) ≤ B (19 + i) ∧ B (19 + i) ≤ 100)
/-- legs -/
def BkG (b : Mm) (B : Int → Int) : Prop := ∀ i, 0 ≤ i → i < B 722 → (b 9 i = B (23 + 6 * i) ∧ b 10 i = B (24 + 6 * i) ∧ b 11 i = B (25 + 6 * i) ∧ b 12 i = B (26 + 6 * i) ∧ b 13 i = B (27 + 6 * i) ∧ b 14 i = B (28 + 6 * i)) ∧
  (0 ≤ B (23 + 6 * i) ∧ B (23 + 6 * i) < B 721) ∧ (0 ≤ B (24 + 6 * i) ∧ B (24 + 6 * i) ≤ 119) ∧ (0 ≤ B (25 + 6 * i) ∧ B (25 + 6 * i) ≤ 5) ∧ (0 ≤ B (26 + 6 * i) ∧ B (26 + 6 * i) ≤ 30) ∧ (0 ≤ B (27 + 6 * i) ∧ B (27 + 6 * i) ≤ 20) ∧ (0 ≤ B (28 + 6 * i) ∧ B (28 + 6 * i) ≤ 100)
/-- cleanings -/
def BkC (b : Mm) (B : Int → Int) : Prop := (∀ i, 0 ≤ i → i < B 723 → (b 5 i = B (383 + 3 * i) ∧ b 6 i = B (384 + 3 * i) ∧ b 7 i = B (385 + 3 * i)) ∧ (0 ≤ B (383 + 3 * i) ∧ B (383 + 3 * i) < B 721) ∧ (0 ≤ B (384 + 3 * i) ∧ B (384 + 3 * i) ≤ 119) ∧ (0 ≤ B (385 + 3 * i) ∧ B (385 + 3 * i) ≤ 1000)) ∧
  ∀ i j, 0 ≤ i → i < j → j < B 723 → ¬ (B (383 + 3 * i) = B (383 + 3 * j) ∧ B (384 + 3 * i) = B (384 + 3 * j))
/-- logs -/
def BkO (b : Mm) (B : Int → Int) : Prop := ∀ i, 0 ≤ i → i < B 724 → (b 16 i = B (503 + 9 * i) ∧ b 17 i = B (504 + 9 * i) ∧ b 18 i = B (505 + 9 * i) ∧ b 19 i = B (506 + 9 * i) ∧ b 20 i = B (507 + 9 * i) ∧ b 21 i = B (508 + 9 * i) ∧ b 22 i = B (509 + 9 * i) ∧ b 23 i = B (510 + 9 * i)) ∧
  (0 ≤ B (503 + 9 * i) ∧ B (503 + 9 * i) < B 721) ∧ (0 ≤ B (504 + 9 * i) ∧ B (504 + 9 * i) ≤ 119) ∧ (0 ≤ B (505 + 9 * i) ∧ B (505 + 9 * i) ≤ 131071) ∧ (0 ≤ B (506 + 9 * i) ∧ B (506 + 9 * i) ≤ 1000) ∧ (1 ≤ B (507 + 9 * i) ∧ B (507 + 9 * i) ≤ 100) ∧ (0 ≤ B (508 + 9 * i) ∧ B (508 + 9 * i) ≤ 119) ∧ (B (509 + 9 * i) = 0 ∨ B (509 + 9 * i) = 1) ∧ (B (510 + 9 * i) = 0 ∨ B (510 + 9 * i) = 1)
/-- the seal -/
def BkZ (b : Mm) : Prop := ∀ i, 0 ≤ i → i < 24 → (b 22 i = 0 ∨ b 22 i = 1) ∧ (b 23 i = 0 ∨ b 23 i = 1)
def BkS (b : Mm) (B : Int → Int) : Prop := ((b 1 4 = B 725 ∧ b 1 5 = B 726 ∧ b 1 6 = B 727) ∧ (-1 ≤ B 725 ∧ B 725 ≤ B 724) ∧ (0 ≤ B 726 ∧ B 726 ≤ 3145704) ∧ (0 ≤ B 727 ∧ B 727 ≤ 75496896)) ∧ BkZ b
/-- a book (cells 1 to 23 of b) and a row of the model say the same -/
def BkR (b : Mm) (B : Int → Int) : Prop := BkN b B ∧ BkT b B ∧ BkB b B ∧ BkL b B ∧ BkG b B ∧ BkC b B ∧ BkO b B ∧ BkS b B
def szB (c : Nat) : Int := match c with
  | 1 => 7 | 2 => 3 | 3 => 10 | 4 => 10 | 5 => 40 | 6 => 40 | 7 => 40 | 8 => 1 | 15 => 1
  | 9 => 60 | 10 => 60 | 11 => 60 | 12 => 60 | 13 => 60 | 14 => 60
  | _ => 24
theorem BkR_congr {b b' : Mm} {B B' : Int → Int} (hb : ∀ c : Nat, 1 ≤ c → c ≤ 23 → ∀ i, 0 ≤ i → i < szB c → b' c i = b c i) (hB : ∀ i, 0 ≤ i → i < 730 → B' i = B i) (h : BkR b B) : BkR b' B' := by
  obtain ⟨⟨n1, n2, n3, n4⟩, ⟨t1, t2⟩, hbb, ⟨l1, l2⟩, hg, ⟨hc1, hc2⟩, ho, ⟨⟨s1, s2, s3, s4⟩, s5⟩⟩ := h
  have e719 := hB 719 (by omega) (by omega)
  have e720 := hB 720 (by omega) (by omega)
  have e721 := hB 721 (by omega) (by omega)
  have e722 := hB 722 (by omega) (by omega)
  have e723 := hB 723 (by omega) (by omega)
  have e724 := hB 724 (by omega) (by omega)
  have e725 := hB 725 (by omega) (by omega)
  have e726 := hB 726 (by omega) (by omega)
  have e727 := hB 727 (by omega) (by omega)
  have f : ∀ c : Nat, 1 ≤ c → c ≤ 23 → ∀ i, 0 ≤ i → i < szB c → b' c i = b c i := hb
  refine ⟨⟨?_, ?_, ?_, ?_⟩, ⟨?_, ?_⟩, ?_, ⟨?_, ?_⟩, ?_, ⟨?_, ?_⟩, ?_, ⟨⟨?_, ?_, ?_, ?_⟩, ?_⟩⟩
  · rw [f 1 (by decide) (by decide) 0 (by decide) (by decide), e721]; exact n1
  · rw [f 8 (by decide) (by decide) 0 (by decide) (by decide), e722]; exact n2
  · rw [f 1 (by decide) (by decide) 1 (by decide) (by decide), e723]; exact n3
  · rw [f 15 (by decide) (by decide) 0 (by decide) (by decide), e724]; exact n4
  · rw [f 1 (by decide) (by decide) 2 (by decide) (by decide), e719]; exact t1
  · rw [f 1 (by decide) (by decide) 3 (by decide) (by decide), e720]; exact t2
  · intro i h0 h1
    rw [e721] at h1
    rw [f 2 (by decide) (by decide) i h0 (by show i < 3; omega), hB i h0 (by omega)]
    exact hbb i h0 h1
  · intro i h0 h1
    rw [f 3 (by decide) (by decide) i h0 (by show i < 10; omega), f 4 (by decide) (by decide) i h0 (by show i < 10; omega), hB (3 + i) (by omega) (by omega), hB (9 + i) (by omega) (by omega)]
    exact l1 i h0 h1
  · intro i h0 h1
    rw [f 3 (by decide) (by decide) (6 + i) (by omega) (by show 6 + i < 10; omega), f 4 (by decide) (by decide) (6 + i) (by omega) (by show 6 + i < 10; omega), hB (15 + i) (by omega) (by omega), hB (19 + i) (by omega) (by omega)]
    exact l2 i h0 h1
  · intro i h0 h1
    rw [e722] at h1
    rw [f 9 (by decide) (by decide) i h0 (by show i < 60; omega), f 10 (by decide) (by decide) i h0 (by show i < 60; omega), f 11 (by decide) (by decide) i h0 (by show i < 60; omega), f 12 (by decide) (by decide) i h0 (by show i < 60; omega), f 13 (by decide) (by decide) i h0 (by show i < 60; omega), f 14 (by decide) (by decide) i h0 (by show i < 60; omega), e721,
      hB (23 + 6 * i) (by omega) (by omega), hB (24 + 6 * i) (by omega) (by omega), hB (25 + 6 * i) (by omega) (by omega), hB (26 + 6 * i) (by omega) (by omega), hB (27 + 6 * i) (by omega) (by omega), hB (28 + 6 * i) (by omega) (by omega)]
    exact hg i h0 h1
  · intro i h0 h1
    rw [e723] at h1
    rw [f 5 (by decide) (by decide) i h0 (by show i < 40; omega), f 6 (by decide) (by decide) i h0 (by show i < 40; omega), f 7 (by decide) (by decide) i h0 (by show i < 40; omega), e721, hB (383 + 3 * i) (by omega) (by omega), hB (384 + 3 * i) (by omega) (by omega), hB (385 + 3 * i) (by omega) (by omega)]
    exact hc1 i h0 h1
  · intro i j h0 h1 h2
    rw [e723] at h2
    rw [hB (383 + 3 * i) (by omega) (by omega), hB (384 + 3 * i) (by omega) (by omega), hB (383 + 3 * j) (by omega) (by omega), hB (384 + 3 * j) (by omega) (by omega)]
    exact hc2 i j h0 h1 h2
  · intro i h0 h1
    rw [e724] at h1
    rw [f 16 (by decide) (by decide) i h0 (by show i < 24; omega), f 17 (by decide) (by decide) i h0 (by show i < 24; omega), f 18 (by decide) (by decide) i h0 (by show i < 24; omega), f 19 (by decide) (by decide) i h0 (by show i < 24; omega), f 20 (by decide) (by decide) i h0 (by show i < 24; omega), f 21 (by decide) (by decide) i h0 (by show i < 24; omega), f 22 (by decide) (by decide) i h0 (by show i < 24; omega), f 23 (by decide) (by decide) i h0 (by show i < 24; omega), e721,
      hB (503 + 9 * i) (by omega) (by omega), hB (504 + 9 * i) (by omega) (by omega), hB (505 + 9 * i) (by omega) (by omega), hB (506 + 9 * i) (by omega) (by omega), hB (507 + 9 * i) (by omega) (by omega), hB (508 + 9 * i) (by omega) (by omega), hB (509 + 9 * i) (by omega) (by omega), hB (510 + 9 * i) (by omega) (by omega)]
    exact ho i h0 h1
  · rw [f 1 (by decide) (by decide) 4 (by decide) (by decide), f 1 (by decide) (by decide) 5 (by decide) (by decide), f 1 (by decide) (by decide) 6 (by decide) (by decide), e725, e726, e727]; exact s1
  · rw [e725, e724]; exact s2
  · rw [e726]; exact s3
  · rw [e727]; exact s4
  · intro i h0 h1
    rw [f 22 (by decide) (by decide) i h0 (by show i < 24; omega), f 23 (by decide) (by decide) i h0 (by show i < 24; omega)]
    exact s5 i h0 h1
/-- RIGHT: set, flag; the model's -/
def IvR (set flag mr : Int) : Prop := (flag = 0 ∧ mr = -1) ∨ (flag = 1 ∧ mr = set ∧ 0 ≤ set ∧ set < 16777216)
/-- PROOF: length, bytes; the model's -/
def IvP (len : Int) (by_ : Int → Int) (ml : Int) (mb : Int → Int) : Prop := (0 ≤ len ∧ len ≤ 2000) ∧ ((ml = -1 ∧ len = 0) ∨ ml = len) ∧ ∀ i, 0 ≤ i → i < len → by_ i = mb i ∧ 0 ≤ by_ i ∧ by_ i ≤ 127
/-- TAPE: length, bytes, fault; the model's -/
def IvT (len : Int) (by_ : Int → Int) (ft ml : Int) (mb : Int → Int) (mf : Int) : Prop := (0 ≤ len ∧ len ≤ 400 ∧ ml = len) ∧ (ft = mf ∧ -1 ≤ ft ∧ ft ≤ 400) ∧ ∀ i, 0 ≤ i → i < len → (0 ≤ by_ i ∧ by_ i ≤ 255) ∧ mb i = (if by_ i < 128 then by_ i else by_ i - 256)
/-- CURVE: flag, row; the model's -/
def IvC (flag : Int) (cu : Int → Int) (mf : Int) (mc : Int → Int) : Prop := (flag = 0 ∨ flag = 1) ∧ mf = flag ∧ (flag = 1 → ∀ d, 0 ≤ d → d < 120 → cu d = mc d ∧ inR (cu d))
/-- HIDDEN: how many, days; the model's -/
def IvH (n : Int) (hd : Int → Int) (mn : Int) (mh : Int → Int) : Prop := (0 ≤ n ∧ n ≤ 2) ∧ ((mn = -1 ∧ n = 0) ∨ mn = n) ∧ ∀ i, 0 ≤ i → i < n → hd i = mh i ∧ inR (hd i)
/-- CALLS: how many, bits by day; the model's -/
def IvK (n : Int) (bits : Int → Int) (mn : Int) (mc : Int → Int) : Prop := (0 ≤ n ∧ n ≤ 7 ∧ mn = n) ∧ (∀ c, 0 ≤ c → c < n → 0 ≤ mc c ∧ mc c ≤ 119) ∧ (∀ c c', 0 ≤ c → c < c' → c' < n → mc c ≠ mc c') ∧ ∀ d, 0 ≤ d → d < 120 → (bits d = 0 ∧ ∀ c, 0 ≤ c → c < n → mc c ≠ d) ∨ ∃ c : Nat, (c : Int) < n ∧ mc (c : Int) = d ∧ bits d = 2 ^ c
def Inv (M : Mm) : Prop :=
  BkR M (M 103) ∧
  ((M 71 0 = M 105 0 ∧ (M 71 0 = 0 ∨ M 71 0 = 1)) ∧ (M 71 1 = M 105 1 ∧ (M 71 1 = 0 ∨ M 71 1 = 1))) ∧
  (M 71 0 = 1 → BkR (fun c => M (c + 24)) (M 104)) ∧
  (M 71 1 = 1 → BkR (fun c => M (c + 47)) (fun i => M 104 (730 + i))) ∧
  (M 0 10 = M 102 0 ∧ -10 ≤ M 0 10 ∧ M 0 10 ≤ 0) ∧
  IvR (M 0 11) (M 0 12) (M 102 14) ∧
  IvP (M 86 2) (M 87) (M 102 17) (M 111) ∧
  IvT (M 88 2) (M 89) (M 88 3) (M 102 25) (M 114) (M 102 29) ∧
  IvC (M 90 7) (M 98) (M 102 38) (M 122) ∧
  IvH (M 90 12) (M 99) (M 102 41) (M 124) ∧
  IvK (M 100 1) (M 101) (M 102 47) (M 125)
/-- the places that the invariant looks at -/
def ftC : List Nat := [1, 2, 3, 4, 5, 6, 7, 8, 9, 10, 11, 12, 13, 14, 15, 16, 17, 18, 19, 20, 21, 22, 23, 25, 26, 27, 28, 29, 30, 31, 32, 33, 34, 35, 36, 37, 38, 39, 40, 41, 42, 43, 44, 45, 46, 47, 48, 49, 50, 51, 52, 53, 54, 55, 56, 57, 58, 59, 60, 61, 62, 63, 64, 65, 66, 67, 68, 69, 70, 71, 87, 89, 98, 99, 101, 103, 104, 105, 111, 114, 122, 124, 125]
def ftS : List (Nat × Int) := [(0, 10), (0, 11), (0, 12), (86, 2), (88, 2), (88, 3), (90, 7), (90, 12), (100, 1), (102, 0), (102, 14), (102, 17), (102, 25), (102, 29), (102, 38), (102, 41), (102, 47)]
def ftb (c : Nat) (i : Int) : Bool := ftC.contains c || ftS.contains (c, i)
def Same (M M' : Mm) : Prop := ∀ c i, ftb c i = true → M' c i = M c i
theorem Same.refl (M : Mm) : Same M M := fun _ _ _ => rfl
theorem Same.trans {M M1 M2 : Mm} (h1 : Same M M1) (h2 : Same M1 M2) : Same M M2 := fun c i h => (h2 c i h).trans (h1 c i h)
theorem Same.cell {M M' : Mm} (h : Same M M') (c : Nat) (hc : ftC.contains c = true) : M' c = M c := funext fun i => h c i (by unfold ftb; rw [hc]; rfl)
theorem Inv.same {M M' : Mm} (h : Same M M') (hI : Inv M) : Inv M' := by
  obtain ⟨i1, i2, i3, i4, i5, i6, i7, i8, i9, i10, i11⟩ := hI
  have hc := h.cell
  have e : ∀ c : Nat, 1 ≤ c → c ≤ 23 → M' c = M c := by
    intro c h1 h2
    refine hc c ?_
    have : ∀ c, c < 24 → 1 ≤ c → ftC.contains c = true := by decide
    exact this c (by omega) h1
  have e2 : ∀ c : Nat, 25 ≤ c → c ≤ 70 → M' c = M c := by
    intro c h1 h2
    refine hc c ?_
    have : ∀ c, c < 71 → 25 ≤ c → ftC.contains c = true := by decide
    exact this c (by omega) h1
  refine ⟨?_, ?_, ?_, ?_, ?_, ?_, ?_, ?_, ?_, ?_, ?_⟩
  · refine BkR_congr (fun c h1 h2 i _ _ => by rw [e c h1 h2]) (fun i _ _ => by rw [hc 103 (by decide)]) i1
  · rw [hc 71 (by decide), hc 105 (by decide)]; exact i2
  · rw [hc 71 (by decide)]
    intro h1
    refine BkR_congr (fun c h1 h2 i _ _ => ?_) (fun i _ _ => by rw [hc 104 (by decide)]) (i3 h1)
    show M' (c + 24) i = M (c + 24) i
    rw [e2 (c + 24) (by omega) (by omega)]
  · rw [hc 71 (by decide)]
    intro h1
    refine BkR_congr (fun c h1 h2 i _ _ => ?_) (fun i _ _ => by rw [hc 104 (by decide)]) (i4 h1)
    show M' (c + 47) i = M (c + 47) i
    rw [e2 (c + 47) (by omega) (by omega)]
  · rw [h 0 10 (by decide), h 102 0 (by decide)]; exact i5
  · rw [h 0 11 (by decide), h 0 12 (by decide), h 102 14 (by decide)]; exact i6
  · rw [h 86 2 (by decide), hc 87 (by decide), h 102 17 (by decide), hc 111 (by decide)]; exact i7
  · rw [h 88 2 (by decide), hc 89 (by decide), h 88 3 (by decide), h 102 25 (by decide), hc 114 (by decide), h 102 29 (by decide)]; exact i8
  · rw [h 90 7 (by decide), hc 98 (by decide), h 102 38 (by decide), hc 122 (by decide)]; exact i9
  · rw [h 90 12 (by decide), hc 99 (by decide), h 102 41 (by decide), hc 124 (by decide)]; exact i10
  · rw [h 100 1 (by decide), hc 101 (by decide), h 102 47 (by decide), hc 125 (by decide)]; exact i11
