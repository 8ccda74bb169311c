/-! ===== numbers ===== -/
theorem t32 {x : Int} (h : inR x) : (Int32.ofInt x).toInt = x := by
  rw [Int32.toInt_ofInt]
  unfold inR at h
  apply Int.bmod_eq_of_le
  · show -(2147483648 : Int) ≤ x
    omega
  · show x < (2147483648 : Int)
    omega
theorem t64 {x : Int} (h : inR64 x) : (Int64.ofInt x).toInt = x := by
  rw [Int64.toInt_ofInt]
  unfold inR64 at h
  apply Int.bmod_eq_of_le
  · show -(9223372036854775808 : Int) ≤ x
    omega
  · show x < (9223372036854775808 : Int)
    omega
theorem lt32 {x y : Int} (hx : inR x) (hy : inR y) : (Int32.ofInt x < Int32.ofInt y) ↔ x < y := by
  rw [Int32.lt_iff_toInt_lt, t32 hx, t32 hy]
theorem le32 {x y : Int} (hx : inR x) (hy : inR y) : (Int32.ofInt x ≤ Int32.ofInt y) ↔ x ≤ y := by
  rw [Int32.le_iff_toInt_le, t32 hx, t32 hy]
theorem eq32 {x y : Int} (hx : inR x) (hy : inR y) : (Int32.ofInt x = Int32.ofInt y) ↔ x = y := by
  rw [← Int32.toInt_inj, t32 hx, t32 hy]
theorem inR0 : inR 0 := by unfold inR; omega
def landI (x y : Int) : Int := (Int32.ofInt x &&& Int32.ofInt y).toInt
def lorI (x y : Int) : Int := (Int32.ofInt x ||| Int32.ofInt y).toInt
def lxorI (x y : Int) : Int := (Int32.ofInt x ^^^ Int32.ofInt y).toInt
def shlI (x y : Int) : Int := (Int32.ofInt x <<< (Int32.ofInt y &&& 31)).toInt
def shrI (x y : Int) : Int := (Int32.ofInt x >>> (Int32.ofInt y &&& 31)).toInt
def ushrI (x y : Int) : Int := ((Int32.ofInt x).toUInt32 >>> ((Int32.ofInt y).toUInt32 &&& Int32.toUInt32 31)).toInt32.toInt
def shlL (x y : Int) : Int := (Int64.ofInt x <<< ((Int32.ofInt y).toInt64 &&& 63)).toInt
def i2bI (x : Int) : Int := (Int32.ofInt x).toInt8.toInt32.toInt
def cmpI (x y : Int) : Int := if x < y then -1 else if x = y then 0 else 1
theorem clamp32 {i : Int} {n : Nat} (h : 0 ≤ i ∧ i < (n : Int)) (hn : n ≤ 200000) : (Int32.ofInt i).toNatClampNeg = i.toNat ∧ vp_in (Int32.ofInt i) n := by
  have hr : inR i := by unfold inR; omega
  have e : (Int32.ofInt i).toNatClampNeg = i.toNat := by
    show (Int32.ofInt i).toInt.toNat = _
    rw [t32 hr]
  refine ⟨e, ?_⟩
  unfold vp_in
  rw [e]
  rintro (q | q)
  · have := (lt32 hr inR0).mp q
    omega
  · omega
theorem cmp64 {x y : Int} (hx : inR64 x) (hy : inR64 y) : lg_cmp (Int64.ofInt x) (Int64.ofInt y) = Int32.ofInt (cmpI x y) := by
  unfold lg_cmp cmpI
  have e1 : (Int64.ofInt x < Int64.ofInt y) ↔ x < y := by rw [Int64.lt_iff_toInt_lt, t64 hx, t64 hy]
  have e2 : (Int64.ofInt x = Int64.ofInt y) ↔ x = y := by rw [← Int64.toInt_inj, t64 hx, t64 hy]
  have e3 : (Int64.ofInt y < Int64.ofInt x) ↔ y < x := by rw [Int64.lt_iff_toInt_lt, t64 hx, t64 hy]
  simp only [GT.gt, e1, e2, e3]
  by_cases h1 : x < y
  · by_cases h2 : y < x
    · omega
    · have : x ≠ y := by omega
      simp [h1, h2, this]
  · by_cases h2 : x = y
    · subst h2; simp
    · have : y < x := by omega
      simp [h1, h2, this]
/-! ===== locals ===== -/
def sto (ls : List (Nat × AV)) (i : Nat) (v : AV) : List (Nat × AV) := (i, v) :: ls.filter (fun q => !(q.1 == i) && !(q.1 + 1 == i && isL q.2))
def sto2 (ls : List (Nat × AV)) (i : Nat) (v : AV) : List (Nat × AV) := (i, v) :: ls.filter (fun q => !(q.1 == i) && (!(q.1 == i + 1) && !(q.1 + 1 == i && isL q.2)))
theorem cls_sto (g : Gp) (ls : List (Nat × AV)) (i : Nat) (v : AV) : (i, cv g v) :: (cls g ls).filter (fun q => !(q.1 == i) && !(q.1 + 1 == i && q.2.category == 2)) = cls g (sto ls i v) := by
  unfold cls sto
  rw [List.map_cons, List.filter_map]
  congr 2
  apply List.filter_congr
  intro q _
  simp only [Function.comp, cv_cat]
theorem cls_sto2 (g : Gp) (ls : List (Nat × AV)) (i : Nat) (v : AV) : (i, cv g v) :: (cls g ls).filter (fun q => !(q.1 == i) && (!(q.1 == i + 1) && !(q.1 + 1 == i && q.2.category == 2))) = cls g (sto2 ls i v) := by
  unfold cls sto2
  rw [List.map_cons, List.filter_map]
  congr 2
  apply List.filter_congr
  intro q _
  simp only [Function.comp, cv_cat]

section Rows1
variable {Γ : Cx} {cc : ByteArray} {own : String} {nL h kC kS : Nat} {K : State → Prop} {kc ks pc : Nat} {ls : List (Nat × AV)} {st : List AV} {Z : Zm}
theorem a_iconst (hΓ : Ok Γ cc own nL h kC kS) {x : Int} (hd : decode cc pc = .ok (.iconst x, 1)) (k : Wa Γ nL K kc ks (pc + 1) ls (aI x :: st) Z) : Wa Γ nL K kc ks pc ls st Z := by
  obtain ⟨p, l, e, R, s, m, args, below, meth, c, g⟩ := Γ
  obtain ⟨hx, hb, hml, hown, hts, hnw, hK, -⟩ := hΓ
  intro H locs lsA hW hl
  exact lv_iconst hx hb hd rfl (k H locs lsA hW hl)
theorem a_bipush (hΓ : Ok Γ cc own nL h kC kS) {x : Int} (hd : decode cc pc = .ok (.bipush x, 2)) (hv : (Int8.ofInt x).toInt32 = Int32.ofInt x) (k : Wa Γ nL K kc ks (pc + 2) ls (aI x :: st) Z) : Wa Γ nL K kc ks pc ls st Z := by
  obtain ⟨p, l, e, R, s, m, args, below, meth, c, g⟩ := Γ
  obtain ⟨hx, hb, hml, hown, hts, hnw, hK, -⟩ := hΓ
  intro H locs lsA hW hl
  exact lv_bipush hx hb hd hv (k H locs lsA hW hl)
theorem a_sipush (hΓ : Ok Γ cc own nL h kC kS) {x : Int} (hd : decode cc pc = .ok (.sipush x, 3)) (hv : (Int16.ofInt x).toInt32 = Int32.ofInt x) (k : Wa Γ nL K kc ks (pc + 3) ls (aI x :: st) Z) : Wa Γ nL K kc ks pc ls st Z := by
  obtain ⟨p, l, e, R, s, m, args, below, meth, c, g⟩ := Γ
  obtain ⟨hx, hb, hml, hown, hts, hnw, hK, -⟩ := hΓ
  intro H locs lsA hW hl
  exact lv_sipush hx hb hd hv (k H locs lsA hW hl)
theorem a_ldc (hΓ : Ok Γ cc own nL h kC kS) {x : Int} {i : Nat} (hw : Cond.constant own i (Int32.ofInt x) ∈ GW) (hd : decode cc pc = .ok (.ldc i, 2)) (k : Wa Γ nL K kc ks (pc + 2) ls (aI x :: st) Z) : Wa Γ nL K kc ks pc ls st Z := by
  obtain ⟨p, l, e, R, s, m, args, below, meth, c, g⟩ := Γ
  obtain ⟨hx, hb, hml, hown, hts, hnw, hK, -⟩ := hΓ
  intro H locs lsA hW hl
  exact lv_ldc hx hb hown (hts _ hw) hd (k H locs lsA hW hl)
theorem a_ldc_w (hΓ : Ok Γ cc own nL h kC kS) {x : Int} {i : Nat} (hw : Cond.constant own i (Int32.ofInt x) ∈ GW) (hd : decode cc pc = .ok (.ldc_w i, 3)) (k : Wa Γ nL K kc ks (pc + 3) ls (aI x :: st) Z) : Wa Γ nL K kc ks pc ls st Z := by
  obtain ⟨p, l, e, R, s, m, args, below, meth, c, g⟩ := Γ
  obtain ⟨hx, hb, hml, hown, hts, hnw, hK, -⟩ := hΓ
  intro H locs lsA hW hl
  exact lv_ldcw hx hb hown (hts _ hw) hd (k H locs lsA hW hl)
theorem a_ldc2_w (hΓ : Ok Γ cc own nL h kC kS) {x : Int} {i : Nat} (hw : Cond.constantLong own i (Int64.ofInt x) ∈ GW) (hd : decode cc pc = .ok (.ldc2_w i, 3)) (k : Wa Γ nL K kc ks (pc + 3) ls (aL x :: st) Z) : Wa Γ nL K kc ks pc ls st Z := by
  obtain ⟨p, l, e, R, s, m, args, below, meth, c, g⟩ := Γ
  obtain ⟨hx, hb, hml, hown, hts, hnw, hK, -⟩ := hΓ
  intro H locs lsA hW hl
  exact lv_ldc2 hx hb hown (hts _ hw) hd (k H locs lsA hW hl)
theorem a_lconst (hΓ : Ok Γ cc own nL h kC kS) {x : Int} {i : Fin 2} (hd : decode cc pc = .ok (.lconst i, 1)) (hv : Int64.ofInt (i.val : Int) = Int64.ofInt x) (k : Wa Γ nL K kc ks (pc + 1) ls (aL x :: st) Z) : Wa Γ nL K kc ks pc ls st Z := by
  obtain ⟨p, l, e, R, s, m, args, below, meth, c, g⟩ := Γ
  obtain ⟨hx, hb, hml, hown, hts, hnw, hK, -⟩ := hΓ
  intro H locs lsA hW hl
  refine lv_lconst hx hb hd ?_ (k H locs lsA hW hl)
  rw [← hv]; rcases i with ⟨_ | _ | i, hi⟩ <;> first | rfl | omega
theorem a_iload (hΓ : Ok Γ cc own nL h kC kS) {i : Nat} {x : Int} (q : Nat) (hd : decode cc pc = .ok (.iload i, 2)) (hq : ls[q]? = some (i, aI x)) (k : Wa Γ nL K kc ks (pc + 2) ls (aI x :: st) Z) : Wa Γ nL K kc ks pc ls st Z := by
  obtain ⟨p, l, e, R, s, m, args, below, meth, c, g⟩ := Γ
  obtain ⟨hx, hb, hml, hown, hts, hnw, hK, -⟩ := hΓ
  intro H locs lsA hW hl
  exact lv_iload hx hb hd (cls_lk hl q hq) (k H locs lsA hW hl)
theorem a_iload_n (hΓ : Ok Γ cc own nL h kC kS) {n : Fin 4} {i : Nat} {x : Int} (q : Nat) (hd : decode cc pc = .ok (.iload_n n, 1)) (hi : (n : Nat) = i) (hq : ls[q]? = some (i, aI x)) (k : Wa Γ nL K kc ks (pc + 1) ls (aI x :: st) Z) : Wa Γ nL K kc ks pc ls st Z := by
  obtain ⟨p, l, e, R, s, m, args, below, meth, c, g⟩ := Γ
  obtain ⟨hx, hb, hml, hown, hts, hnw, hK, -⟩ := hΓ
  intro H locs lsA hW hl
  exact lv_iload_n hx hb hd hi (cls_lk hl q hq) (k H locs lsA hW hl)
theorem a_lload (hΓ : Ok Γ cc own nL h kC kS) {i : Nat} {x : Int} (q : Nat) (hd : decode cc pc = .ok (.lload i, 2)) (hq : ls[q]? = some (i, aL x)) (k : Wa Γ nL K kc ks (pc + 2) ls (aL x :: st) Z) : Wa Γ nL K kc ks pc ls st Z := by
  obtain ⟨p, l, e, R, s, m, args, below, meth, c, g⟩ := Γ
  obtain ⟨hx, hb, hml, hown, hts, hnw, hK, -⟩ := hΓ
  intro H locs lsA hW hl
  exact lv_lload hx hb hd (cls_lk hl q hq) (k H locs lsA hW hl)
theorem a_lload_n (hΓ : Ok Γ cc own nL h kC kS) {n : Fin 4} {i : Nat} {x : Int} (q : Nat) (hd : decode cc pc = .ok (.lload_n n, 1)) (hi : (n : Nat) = i) (hq : ls[q]? = some (i, aL x)) (k : Wa Γ nL K kc ks (pc + 1) ls (aL x :: st) Z) : Wa Γ nL K kc ks pc ls st Z := by
  obtain ⟨p, l, e, R, s, m, args, below, meth, c, g⟩ := Γ
  obtain ⟨hx, hb, hml, hown, hts, hnw, hK, -⟩ := hΓ
  intro H locs lsA hW hl
  exact lv_lload_n hx hb hd hi (cls_lk hl q hq) (k H locs lsA hW hl)
theorem a_aload (hΓ : Ok Γ cc own nL h kC kS) {i : Nat} {x : Nat} (q : Nat) (hd : decode cc pc = .ok (.aload i, 2)) (hq : ls[q]? = some (i, aR x)) (k : Wa Γ nL K kc ks (pc + 2) ls (aR x :: st) Z) : Wa Γ nL K kc ks pc ls st Z := by
  obtain ⟨p, l, e, R, s, m, args, below, meth, c, g⟩ := Γ
  obtain ⟨hx, hb, hml, hown, hts, hnw, hK, -⟩ := hΓ
  intro H locs lsA hW hl
  exact lv_aload hx hb hd (cls_lk hl q hq) (k H locs lsA hW hl)
theorem a_aload_n (hΓ : Ok Γ cc own nL h kC kS) {n : Fin 4} {i : Nat} {x : Nat} (q : Nat) (hd : decode cc pc = .ok (.aload_n n, 1)) (hi : (n : Nat) = i) (hq : ls[q]? = some (i, aR x)) (k : Wa Γ nL K kc ks (pc + 1) ls (aR x :: st) Z) : Wa Γ nL K kc ks pc ls st Z := by
  obtain ⟨p, l, e, R, s, m, args, below, meth, c, g⟩ := Γ
  obtain ⟨hx, hb, hml, hown, hts, hnw, hK, -⟩ := hΓ
  intro H locs lsA hW hl
  exact lv_aload_n hx hb hd hi (cls_lk hl q hq) (k H locs lsA hW hl)
theorem a_istore (hΓ : Ok Γ cc own nL h kC kS) {i : Nat} {x : Int} {ls' : List (Nat × AV)} (hd : decode cc pc = .ok (.istore i, 2)) (hn : i < nL) (hs : sto ls i (aI x) = ls') (k : Wa Γ nL K kc ks (pc + 2) ls' st Z) : Wa Γ nL K kc ks pc ls (aI x :: st) Z := by
  obtain ⟨p, l, e, R, s, m, args, below, meth, c, g⟩ := Γ
  obtain ⟨hx, hb, hml, hown, hts, hnw, hK, -⟩ := hΓ
  intro H locs lsA hW hl
  have e : (i, cv g (aI x)) :: (cls g ls).filter (fun q => !(q.1 == i) && !(q.1 + 1 == i && q.2.category == 2)) = cls g ls' := by rw [← hs]; exact cls_sto g ls i _
  exact lv_istore hx hb hd hl hn e (fun lsB hB => k H locs lsB hW hB)
theorem a_istore_n (hΓ : Ok Γ cc own nL h kC kS) {n : Fin 4} {i : Nat} {x : Int} {ls' : List (Nat × AV)} (hd : decode cc pc = .ok (.istore_n n, 1)) (hi : (n : Nat) = i) (hn : i < nL) (hs : sto ls i (aI x) = ls') (k : Wa Γ nL K kc ks (pc + 1) ls' st Z) : Wa Γ nL K kc ks pc ls (aI x :: st) Z := by
  obtain ⟨p, l, e, R, s, m, args, below, meth, c, g⟩ := Γ
  obtain ⟨hx, hb, hml, hown, hts, hnw, hK, -⟩ := hΓ
  intro H locs lsA hW hl
  have e : (i, cv g (aI x)) :: (cls g ls).filter (fun q => !(q.1 == i) && !(q.1 + 1 == i && q.2.category == 2)) = cls g ls' := by rw [← hs]; exact cls_sto g ls i _
  exact lv_istore_n hx hb hd hi hl hn e (fun lsB hB => k H locs lsB hW hB)
theorem a_astore (hΓ : Ok Γ cc own nL h kC kS) {i : Nat} {x : Nat} {ls' : List (Nat × AV)} (hd : decode cc pc = .ok (.astore i, 2)) (hn : i < nL) (hs : sto ls i (aR x) = ls') (k : Wa Γ nL K kc ks (pc + 2) ls' st Z) : Wa Γ nL K kc ks pc ls (aR x :: st) Z := by
  obtain ⟨p, l, e, R, s, m, args, below, meth, c, g⟩ := Γ
  obtain ⟨hx, hb, hml, hown, hts, hnw, hK, -⟩ := hΓ
  intro H locs lsA hW hl
  have e : (i, cv g (aR x)) :: (cls g ls).filter (fun q => !(q.1 == i) && !(q.1 + 1 == i && q.2.category == 2)) = cls g ls' := by rw [← hs]; exact cls_sto g ls i _
  exact lv_astore hx hb hd hl hn e (fun lsB hB => k H locs lsB hW hB)
theorem a_astore_n (hΓ : Ok Γ cc own nL h kC kS) {n : Fin 4} {i : Nat} {x : Nat} {ls' : List (Nat × AV)} (hd : decode cc pc = .ok (.astore_n n, 1)) (hi : (n : Nat) = i) (hn : i < nL) (hs : sto ls i (aR x) = ls') (k : Wa Γ nL K kc ks (pc + 1) ls' st Z) : Wa Γ nL K kc ks pc ls (aR x :: st) Z := by
  obtain ⟨p, l, e, R, s, m, args, below, meth, c, g⟩ := Γ
  obtain ⟨hx, hb, hml, hown, hts, hnw, hK, -⟩ := hΓ
  intro H locs lsA hW hl
  have e : (i, cv g (aR x)) :: (cls g ls).filter (fun q => !(q.1 == i) && !(q.1 + 1 == i && q.2.category == 2)) = cls g ls' := by rw [← hs]; exact cls_sto g ls i _
  exact lv_astore_n hx hb hd hi hl hn e (fun lsB hB => k H locs lsB hW hB)
theorem a_lstore (hΓ : Ok Γ cc own nL h kC kS) {i : Nat} {x : Int} {ls' : List (Nat × AV)} (hd : decode cc pc = .ok (.lstore i, 2)) (hn : i + 1 < nL) (hs : sto2 ls i (aL x) = ls') (k : Wa Γ nL K kc ks (pc + 2) ls' st Z) : Wa Γ nL K kc ks pc ls (aL x :: st) Z := by
  obtain ⟨p, l, e, R, s, m, args, below, meth, c, g⟩ := Γ
  obtain ⟨hx, hb, hml, hown, hts, hnw, hK, -⟩ := hΓ
  intro H locs lsA hW hl
  have e : (i, cv g (aL x)) :: (cls g ls).filter (fun q => !(q.1 == i) && (!(q.1 == i + 1) && !(q.1 + 1 == i && q.2.category == 2))) = cls g ls' := by rw [← hs]; exact cls_sto2 g ls i _
  exact lv_lstore hx hb hd hl hn e (fun lsB hB => k H locs lsB hW hB)
theorem a_lstore_n (hΓ : Ok Γ cc own nL h kC kS) {n : Fin 4} {i : Nat} {x : Int} {ls' : List (Nat × AV)} (hd : decode cc pc = .ok (.lstore_n n, 1)) (hi : (n : Nat) = i) (hn : i + 1 < nL) (hs : sto2 ls i (aL x) = ls') (k : Wa Γ nL K kc ks (pc + 1) ls' st Z) : Wa Γ nL K kc ks pc ls (aL x :: st) Z := by
  obtain ⟨p, l, e, R, s, m, args, below, meth, c, g⟩ := Γ
  obtain ⟨hx, hb, hml, hown, hts, hnw, hK, -⟩ := hΓ
  intro H locs lsA hW hl
  have e : (i, cv g (aL x)) :: (cls g ls).filter (fun q => !(q.1 == i) && (!(q.1 == i + 1) && !(q.1 + 1 == i && q.2.category == 2))) = cls g ls' := by rw [← hs]; exact cls_sto2 g ls i _
  exact lv_lstore_n hx hb hd hi hl hn e (fun lsB hB => k H locs lsB hW hB)
theorem a_iinc (hΓ : Ok Γ cc own nL h kC kS) {i : Nat} {x d : Int} {ls' : List (Nat × AV)} (q : Nat) (hd : decode cc pc = .ok (.iinc i d, 3)) (hq : ls[q]? = some (i, aI x)) (hn : i < nL) (hs : sto ls i (aI (x + d)) = ls') (k : Wa Γ nL K kc ks (pc + 3) ls' st Z) : Wa Γ nL K kc ks pc ls st Z := by
  obtain ⟨p, l, e, R, s, m, args, below, meth, c, g⟩ := Γ
  obtain ⟨hx, hb, hml, hown, hts, hnw, hK, -⟩ := hΓ
  intro H locs lsA hW hl
  have e : (i, cv g (aI (x + d))) :: (cls g ls).filter (fun q => !(q.1 == i) && !(q.1 + 1 == i && q.2.category == 2)) = cls g ls' := by rw [← hs]; exact cls_sto g ls i _
  refine lv_iinc (k := q) hx hb hd hl (by simp [cls, hq]; rfl) ?_ hn e (fun lsB hB => k H locs lsB hW hB)
  rw [Int32.ofInt_add]
theorem a_iadd (hΓ : Ok Γ cc own nL h kC kS) {x y : Int} (hd : decode cc pc = .ok (.iadd, 1)) (k : Wa Γ nL K kc ks (pc + 1) ls (aI (x + y) :: st) Z) : Wa Γ nL K kc ks pc ls (aI y :: aI x :: st) Z := by
  obtain ⟨p, l, e, R, s, m, args, below, meth, c, g⟩ := Γ
  obtain ⟨hx, hb, hml, hown, hts, hnw, hK, -⟩ := hΓ
  intro H locs lsA hW hl
  refine lv_iadd hx hb hd ?_
  have q := k H locs lsA hW hl
  simp only [List.map_cons, cv, Int32.ofInt_add] at q
  exact q
theorem a_isub (hΓ : Ok Γ cc own nL h kC kS) {x y : Int} (hd : decode cc pc = .ok (.isub, 1)) (k : Wa Γ nL K kc ks (pc + 1) ls (aI (x - y) :: st) Z) : Wa Γ nL K kc ks pc ls (aI y :: aI x :: st) Z := by
  obtain ⟨p, l, e, R, s, m, args, below, meth, c, g⟩ := Γ
  obtain ⟨hx, hb, hml, hown, hts, hnw, hK, -⟩ := hΓ
  intro H locs lsA hW hl
  refine lv_isub hx hb hd ?_
  have q := k H locs lsA hW hl
  simp only [List.map_cons, cv, Int32.ofInt_sub] at q
  exact q
theorem a_imul (hΓ : Ok Γ cc own nL h kC kS) {x y : Int} (hd : decode cc pc = .ok (.imul, 1)) (k : Wa Γ nL K kc ks (pc + 1) ls (aI (x * y) :: st) Z) : Wa Γ nL K kc ks pc ls (aI y :: aI x :: st) Z := by
  obtain ⟨p, l, e, R, s, m, args, below, meth, c, g⟩ := Γ
  obtain ⟨hx, hb, hml, hown, hts, hnw, hK, -⟩ := hΓ
  intro H locs lsA hW hl
  refine lv_imul hx hb hd ?_
  have q := k H locs lsA hW hl
  simp only [List.map_cons, cv, Int32.ofInt_mul] at q
  exact q
theorem a_iand (hΓ : Ok Γ cc own nL h kC kS) {x y : Int} (hd : decode cc pc = .ok (.iand, 1)) (k : Wa Γ nL K kc ks (pc + 1) ls (aI (landI x y) :: st) Z) : Wa Γ nL K kc ks pc ls (aI y :: aI x :: st) Z := by
  obtain ⟨p, l, e, R, s, m, args, below, meth, c, g⟩ := Γ
  obtain ⟨hx, hb, hml, hown, hts, hnw, hK, -⟩ := hΓ
  intro H locs lsA hW hl
  refine lv_iand hx hb hd ?_
  have q := k H locs lsA hW hl
  simp only [List.map_cons, cv, landI, Int32.ofInt_toInt] at q
  exact q
theorem a_ior (hΓ : Ok Γ cc own nL h kC kS) {x y : Int} (hd : decode cc pc = .ok (.ior, 1)) (k : Wa Γ nL K kc ks (pc + 1) ls (aI (lorI x y) :: st) Z) : Wa Γ nL K kc ks pc ls (aI y :: aI x :: st) Z := by
  obtain ⟨p, l, e, R, s, m, args, below, meth, c, g⟩ := Γ
  obtain ⟨hx, hb, hml, hown, hts, hnw, hK, -⟩ := hΓ
  intro H locs lsA hW hl
  refine lv_ior hx hb hd ?_
  have q := k H locs lsA hW hl
  simp only [List.map_cons, cv, lorI, Int32.ofInt_toInt] at q
  exact q
theorem a_ixor (hΓ : Ok Γ cc own nL h kC kS) {x y : Int} (hd : decode cc pc = .ok (.ixor, 1)) (k : Wa Γ nL K kc ks (pc + 1) ls (aI (lxorI x y) :: st) Z) : Wa Γ nL K kc ks pc ls (aI y :: aI x :: st) Z := by
  obtain ⟨p, l, e, R, s, m, args, below, meth, c, g⟩ := Γ
  obtain ⟨hx, hb, hml, hown, hts, hnw, hK, -⟩ := hΓ
  intro H locs lsA hW hl
  refine lv_ixor hx hb hd ?_
  have q := k H locs lsA hW hl
  simp only [List.map_cons, cv, lxorI, Int32.ofInt_toInt] at q
  exact q
theorem a_ishl (hΓ : Ok Γ cc own nL h kC kS) {x y : Int} (hd : decode cc pc = .ok (.ishl, 1)) (k : Wa Γ nL K kc ks (pc + 1) ls (aI (shlI x y) :: st) Z) : Wa Γ nL K kc ks pc ls (aI y :: aI x :: st) Z := by
  obtain ⟨p, l, e, R, s, m, args, below, meth, c, g⟩ := Γ
  obtain ⟨hx, hb, hml, hown, hts, hnw, hK, -⟩ := hΓ
  intro H locs lsA hW hl
  refine lv_ishl hx hb hd ?_
  have q := k H locs lsA hW hl
  simp only [List.map_cons, cv, shlI, Int32.ofInt_toInt] at q
  exact q
theorem a_ishr (hΓ : Ok Γ cc own nL h kC kS) {x y : Int} (hd : decode cc pc = .ok (.ishr, 1)) (k : Wa Γ nL K kc ks (pc + 1) ls (aI (shrI x y) :: st) Z) : Wa Γ nL K kc ks pc ls (aI y :: aI x :: st) Z := by
  obtain ⟨p, l, e, R, s, m, args, below, meth, c, g⟩ := Γ
  obtain ⟨hx, hb, hml, hown, hts, hnw, hK, -⟩ := hΓ
  intro H locs lsA hW hl
  refine lv_ishr hx hb hd ?_
  have q := k H locs lsA hW hl
  simp only [List.map_cons, cv, shrI, Int32.ofInt_toInt] at q
  exact q
theorem a_ladd (hΓ : Ok Γ cc own nL h kC kS) {x y : Int} (hd : decode cc pc = .ok (.ladd, 1)) (k : Wa Γ nL K kc ks (pc + 1) ls (aL (x + y) :: st) Z) : Wa Γ nL K kc ks pc ls (aL y :: aL x :: st) Z := by
  obtain ⟨p, l, e, R, s, m, args, below, meth, c, g⟩ := Γ
  obtain ⟨hx, hb, hml, hown, hts, hnw, hK, -⟩ := hΓ
  intro H locs lsA hW hl
  refine lv_ladd hx hb hd ?_
  have q := k H locs lsA hW hl
  simp only [List.map_cons, cv, Int64.ofInt_add] at q
  exact q
theorem a_lsub (hΓ : Ok Γ cc own nL h kC kS) {x y : Int} (hd : decode cc pc = .ok (.lsub, 1)) (k : Wa Γ nL K kc ks (pc + 1) ls (aL (x - y) :: st) Z) : Wa Γ nL K kc ks pc ls (aL y :: aL x :: st) Z := by
  obtain ⟨p, l, e, R, s, m, args, below, meth, c, g⟩ := Γ
  obtain ⟨hx, hb, hml, hown, hts, hnw, hK, -⟩ := hΓ
  intro H locs lsA hW hl
  refine lv_lsub hx hb hd ?_
  have q := k H locs lsA hW hl
  simp only [List.map_cons, cv, Int64.ofInt_sub] at q
  exact q
theorem a_lmul (hΓ : Ok Γ cc own nL h kC kS) {x y : Int} (hd : decode cc pc = .ok (.lmul, 1)) (k : Wa Γ nL K kc ks (pc + 1) ls (aL (x * y) :: st) Z) : Wa Γ nL K kc ks pc ls (aL y :: aL x :: st) Z := by
  obtain ⟨p, l, e, R, s, m, args, below, meth, c, g⟩ := Γ
  obtain ⟨hx, hb, hml, hown, hts, hnw, hK, -⟩ := hΓ
  intro H locs lsA hW hl
  refine lv_lmul hx hb hd ?_
  have q := k H locs lsA hW hl
  simp only [List.map_cons, cv, Int64.ofInt_mul] at q
  exact q
theorem a_idiv (hΓ : Ok Γ cc own nL h kC kS) {x y : Int} (hxr : inR x) (hyr : inR y) (hy : y ≠ 0) (hd : decode cc pc = .ok (.idiv, 1)) (k : Wa Γ nL K kc ks (pc + 1) ls (aI (Int.tdiv x y) :: st) Z) : Wa Γ nL K kc ks pc ls (aI y :: aI x :: st) Z := by
  obtain ⟨p, l, e, R, s, m, args, below, meth, c, g⟩ := Γ
  obtain ⟨hx, hb, hml, hown, hts, hnw, hK, -⟩ := hΓ
  intro H locs lsA hW hl
  refine lv_idiv hx hb hd (fun q => hy ((eq32 hyr inR0).mp q)) ?_
  have q := k H locs lsA hW hl
  simp only [List.map_cons, cv] at q
  rw [Int32.ofInt_tdiv hxr.1 hxr.2 hyr.1 hyr.2] at q
  exact q
theorem a_irem (hΓ : Ok Γ cc own nL h kC kS) {x y : Int} (hxr : inR x) (hyr : inR y) (hy : y ≠ 0) (hd : decode cc pc = .ok (.irem, 1)) (k : Wa Γ nL K kc ks (pc + 1) ls (aI (Int.tmod x y) :: st) Z) : Wa Γ nL K kc ks pc ls (aI y :: aI x :: st) Z := by
  obtain ⟨p, l, e, R, s, m, args, below, meth, c, g⟩ := Γ
  obtain ⟨hx, hb, hml, hown, hts, hnw, hK, -⟩ := hΓ
  intro H locs lsA hW hl
  refine lv_irem hx hb hd (fun q => hy ((eq32 hyr inR0).mp q)) ?_
  have q := k H locs lsA hW hl
  simp only [List.map_cons, cv] at q
  rw [show Int.tmod x y = x - Int.tdiv x y * y by rw [Int.tmod_def, Int.mul_comm], Int32.ofInt_sub, Int32.ofInt_mul, Int32.ofInt_tdiv hxr.1 hxr.2 hyr.1 hyr.2] at q
  exact q
theorem a_ineg (hΓ : Ok Γ cc own nL h kC kS) {x : Int} (hd : decode cc pc = .ok (.ineg, 1)) (k : Wa Γ nL K kc ks (pc + 1) ls (aI (-x) :: st) Z) : Wa Γ nL K kc ks pc ls (aI x :: st) Z := by
  obtain ⟨p, l, e, R, s, m, args, below, meth, c, g⟩ := Γ
  obtain ⟨hx, hb, hml, hown, hts, hnw, hK, -⟩ := hΓ
  intro H locs lsA hW hl
  refine lv_ineg hx hb hd ?_
  have q := k H locs lsA hW hl
  simp only [List.map_cons, cv, Int32.ofInt_neg] at q
  exact q
theorem a_iushr (hΓ : Ok Γ cc own nL h kC kS) {x y : Int} (hd : decode cc pc = .ok (.iushr, 1)) (k : Wa Γ nL K kc ks (pc + 1) ls (aI (ushrI x y) :: st) Z) : Wa Γ nL K kc ks pc ls (aI y :: aI x :: st) Z := by
  obtain ⟨p, l, e, R, s, m, args, below, meth, c, g⟩ := Γ
  obtain ⟨hx, hb, hml, hown, hts, hnw, hK, -⟩ := hΓ
  intro H locs lsA hW hl
  refine lv_iushr (v := Int32.ofInt (ushrI x y)) hx hb hd ?_ (k H locs lsA hW hl)
  unfold ushrI
  rw [Int32.ofInt_toInt]
theorem a_lshl (hΓ : Ok Γ cc own nL h kC kS) {x y : Int} (hd : decode cc pc = .ok (.lshl, 1)) (k : Wa Γ nL K kc ks (pc + 1) ls (aL (shlL x y) :: st) Z) : Wa Γ nL K kc ks pc ls (aI y :: aL x :: st) Z := by
  obtain ⟨p, l, e, R, s, m, args, below, meth, c, g⟩ := Γ
  obtain ⟨hx, hb, hml, hown, hts, hnw, hK, -⟩ := hΓ
  intro H locs lsA hW hl
  refine lv_lshl (v := Int64.ofInt (shlL x y)) hx hb hd ?_ (k H locs lsA hW hl)
  unfold shlL
  rw [Int64.ofInt_toInt]
theorem a_i2l (hΓ : Ok Γ cc own nL h kC kS) {x : Int} (hxr : inR x) (hd : decode cc pc = .ok (.i2l, 1)) (k : Wa Γ nL K kc ks (pc + 1) ls (aL x :: st) Z) : Wa Γ nL K kc ks pc ls (aI x :: st) Z := by
  obtain ⟨p, l, e, R, s, m, args, below, meth, c, g⟩ := Γ
  obtain ⟨hx, hb, hml, hown, hts, hnw, hK, -⟩ := hΓ
  intro H locs lsA hW hl
  exact lv_i2l (v := Int64.ofInt x) hx hb hd (Int32.toInt64_ofInt hxr.1 hxr.2) (k H locs lsA hW hl)
theorem a_i2b (hΓ : Ok Γ cc own nL h kC kS) {x : Int} (hd : decode cc pc = .ok (.i2b, 1)) (k : Wa Γ nL K kc ks (pc + 1) ls (aI (i2bI x) :: st) Z) : Wa Γ nL K kc ks pc ls (aI x :: st) Z := by
  obtain ⟨p, l, e, R, s, m, args, below, meth, c, g⟩ := Γ
  obtain ⟨hx, hb, hml, hown, hts, hnw, hK, -⟩ := hΓ
  intro H locs lsA hW hl
  refine lv_i2b (v := Int32.ofInt (i2bI x)) hx hb hd ?_ (k H locs lsA hW hl)
  unfold i2bI
  rw [Int32.ofInt_toInt]
theorem a_lcmp (hΓ : Ok Γ cc own nL h kC kS) {x y : Int} (hxr : inR64 x) (hyr : inR64 y) (hd : decode cc pc = .ok (.lcmp, 1)) (k : Wa Γ nL K kc ks (pc + 1) ls (aI (cmpI x y) :: st) Z) : Wa Γ nL K kc ks pc ls (aL y :: aL x :: st) Z := by
  obtain ⟨p, l, e, R, s, m, args, below, meth, c, g⟩ := Γ
  obtain ⟨hx, hb, hml, hown, hts, hnw, hK, -⟩ := hΓ
  intro H locs lsA hW hl
  refine W.lcmp hx hb hd ?_
  have q := k H locs lsA hW hl
  rw [cmp64 hxr hyr]
  exact q
theorem a_dupR (hΓ : Ok Γ cc own nL h kC kS) {x : Nat} (hd : decode cc pc = .ok (.dup, 1)) (k : Wa Γ nL K kc ks (pc + 1) ls (aR x :: aR x :: st) Z) : Wa Γ nL K kc ks pc ls (aR x :: st) Z := by
  obtain ⟨p, l, e, R, s, m, args, below, meth, c, g⟩ := Γ
  obtain ⟨hx, hb, hml, hown, hts, hnw, hK, -⟩ := hΓ
  intro H locs lsA hW hl
  exact lv_dup hx hb hd rfl (k H locs lsA hW hl)
theorem a_dupI (hΓ : Ok Γ cc own nL h kC kS) {x : Int} (hd : decode cc pc = .ok (.dup, 1)) (k : Wa Γ nL K kc ks (pc + 1) ls (aI x :: aI x :: st) Z) : Wa Γ nL K kc ks pc ls (aI x :: st) Z := by
  obtain ⟨p, l, e, R, s, m, args, below, meth, c, g⟩ := Γ
  obtain ⟨hx, hb, hml, hown, hts, hnw, hK, -⟩ := hΓ
  intro H locs lsA hW hl
  exact lv_dup hx hb hd rfl (k H locs lsA hW hl)
theorem a_dup2 (hΓ : Ok Γ cc own nL h kC kS) {x : Int} {y : Nat} (hd : decode cc pc = .ok (.dup2, 1)) (k : Wa Γ nL K kc ks (pc + 1) ls (aI x :: aR y :: aI x :: aR y :: st) Z) : Wa Γ nL K kc ks pc ls (aI x :: aR y :: st) Z := by
  obtain ⟨p, l, e, R, s, m, args, below, meth, c, g⟩ := Γ
  obtain ⟨hx, hb, hml, hown, hts, hnw, hK, -⟩ := hΓ
  intro H locs lsA hW hl
  exact lv_dup2_11 hx hb hd rfl rfl (k H locs lsA hW hl)
theorem a_popI (hΓ : Ok Γ cc own nL h kC kS) {x : Int} (hd : decode cc pc = .ok (.pop, 1)) (k : Wa Γ nL K kc ks (pc + 1) ls st Z) : Wa Γ nL K kc ks pc ls (aI x :: st) Z := by
  obtain ⟨p, l, e, R, s, m, args, below, meth, c, g⟩ := Γ
  obtain ⟨hx, hb, hml, hown, hts, hnw, hK, -⟩ := hΓ
  intro H locs lsA hW hl
  exact lv_pop hx hb hd rfl (k H locs lsA hW hl)
theorem a_icmp_eq (hΓ : Ok Γ cc own nL h kC kS) {x y off : Int} {tgt : Nat} (hxr : inR x) (hyr : inR y) (hd : decode cc pc = .ok (.if_icmp .eq off, 3)) (ht : (pc : Int) + off = (tgt : Int)) (ky : x = y → Wa Γ nL K kc ks tgt ls st Z) (kn : ¬ x = y → Wa Γ nL K kc ks (pc + 3) ls st Z) : Wa Γ nL K kc ks pc ls (aI y :: aI x :: st) Z := by
  obtain ⟨p, l, e, R, s, m, args, below, meth, c, g⟩ := Γ
  obtain ⟨hx, hb, hml, hown, hts, hnw, hK, -⟩ := hΓ
  intro H locs lsA hW hl
  exact lv_icmp_eq hx hb hd ht (fun q => ky ((eq32 hxr hyr).mp q) H locs lsA hW hl) (fun q => kn (fun z => q ((eq32 hxr hyr).mpr z)) H locs lsA hW hl)
theorem a_if_eq (hΓ : Ok Γ cc own nL h kC kS) {x off : Int} {tgt : Nat} (hxr : inR x) (hd : decode cc pc = .ok (.ifCond .eq off, 3)) (ht : (pc : Int) + off = (tgt : Int)) (ky : x = 0 → Wa Γ nL K kc ks tgt ls st Z) (kn : ¬ x = 0 → Wa Γ nL K kc ks (pc + 3) ls st Z) : Wa Γ nL K kc ks pc ls (aI x :: st) Z := by
  obtain ⟨p, l, e, R, s, m, args, below, meth, c, g⟩ := Γ
  obtain ⟨hx, hb, hml, hown, hts, hnw, hK, -⟩ := hΓ
  intro H locs lsA hW hl
  exact lv_if_eq hx hb hd ht (fun q => ky ((eq32 hxr inR0).mp q) H locs lsA hW hl) (fun q => kn (fun z => q ((eq32 hxr inR0).mpr z)) H locs lsA hW hl)
theorem a_icmp_ne (hΓ : Ok Γ cc own nL h kC kS) {x y off : Int} {tgt : Nat} (hxr : inR x) (hyr : inR y) (hd : decode cc pc = .ok (.if_icmp .ne off, 3)) (ht : (pc : Int) + off = (tgt : Int)) (ky : x = y → Wa Γ nL K kc ks (pc + 3) ls st Z) (kn : ¬ x = y → Wa Γ nL K kc ks tgt ls st Z) : Wa Γ nL K kc ks pc ls (aI y :: aI x :: st) Z := by
  obtain ⟨p, l, e, R, s, m, args, below, meth, c, g⟩ := Γ
  obtain ⟨hx, hb, hml, hown, hts, hnw, hK, -⟩ := hΓ
  intro H locs lsA hW hl
  exact lv_icmp_ne hx hb hd ht (fun q => kn (fun z => q ((eq32 hxr hyr).mpr z)) H locs lsA hW hl) (fun q => ky ((eq32 hxr hyr).mp q) H locs lsA hW hl)
theorem a_if_ne (hΓ : Ok Γ cc own nL h kC kS) {x off : Int} {tgt : Nat} (hxr : inR x) (hd : decode cc pc = .ok (.ifCond .ne off, 3)) (ht : (pc : Int) + off = (tgt : Int)) (ky : x = 0 → Wa Γ nL K kc ks (pc + 3) ls st Z) (kn : ¬ x = 0 → Wa Γ nL K kc ks tgt ls st Z) : Wa Γ nL K kc ks pc ls (aI x :: st) Z := by
  obtain ⟨p, l, e, R, s, m, args, below, meth, c, g⟩ := Γ
  obtain ⟨hx, hb, hml, hown, hts, hnw, hK, -⟩ := hΓ
  intro H locs lsA hW hl
  exact lv_if_ne hx hb hd ht (fun q => kn (fun z => q ((eq32 hxr inR0).mpr z)) H locs lsA hW hl) (fun q => ky ((eq32 hxr inR0).mp q) H locs lsA hW hl)
theorem a_icmp_lt (hΓ : Ok Γ cc own nL h kC kS) {x y off : Int} {tgt : Nat} (hxr : inR x) (hyr : inR y) (hd : decode cc pc = .ok (.if_icmp .lt off, 3)) (ht : (pc : Int) + off = (tgt : Int)) (ky : x < y → Wa Γ nL K kc ks tgt ls st Z) (kn : ¬ x < y → Wa Γ nL K kc ks (pc + 3) ls st Z) : Wa Γ nL K kc ks pc ls (aI y :: aI x :: st) Z := by
  obtain ⟨p, l, e, R, s, m, args, below, meth, c, g⟩ := Γ
  obtain ⟨hx, hb, hml, hown, hts, hnw, hK, -⟩ := hΓ
  intro H locs lsA hW hl
  exact lv_icmp_lt hx hb hd ht (fun q => ky ((lt32 hxr hyr).mp q) H locs lsA hW hl) (fun q => kn (fun z => q ((lt32 hxr hyr).mpr z)) H locs lsA hW hl)
theorem a_if_lt (hΓ : Ok Γ cc own nL h kC kS) {x off : Int} {tgt : Nat} (hxr : inR x) (hd : decode cc pc = .ok (.ifCond .lt off, 3)) (ht : (pc : Int) + off = (tgt : Int)) (ky : x < 0 → Wa Γ nL K kc ks tgt ls st Z) (kn : ¬ x < 0 → Wa Γ nL K kc ks (pc + 3) ls st Z) : Wa Γ nL K kc ks pc ls (aI x :: st) Z := by
  obtain ⟨p, l, e, R, s, m, args, below, meth, c, g⟩ := Γ
  obtain ⟨hx, hb, hml, hown, hts, hnw, hK, -⟩ := hΓ
  intro H locs lsA hW hl
  exact lv_if_lt hx hb hd ht (fun q => ky ((lt32 hxr inR0).mp q) H locs lsA hW hl) (fun q => kn (fun z => q ((lt32 hxr inR0).mpr z)) H locs lsA hW hl)
theorem a_icmp_ge (hΓ : Ok Γ cc own nL h kC kS) {x y off : Int} {tgt : Nat} (hxr : inR x) (hyr : inR y) (hd : decode cc pc = .ok (.if_icmp .ge off, 3)) (ht : (pc : Int) + off = (tgt : Int)) (ky : x < y → Wa Γ nL K kc ks (pc + 3) ls st Z) (kn : ¬ x < y → Wa Γ nL K kc ks tgt ls st Z) : Wa Γ nL K kc ks pc ls (aI y :: aI x :: st) Z := by
  obtain ⟨p, l, e, R, s, m, args, below, meth, c, g⟩ := Γ
  obtain ⟨hx, hb, hml, hown, hts, hnw, hK, -⟩ := hΓ
  intro H locs lsA hW hl
  exact lv_icmp_ge hx hb hd ht (fun q => kn (by have := (le32 hyr hxr).mp q; omega) H locs lsA hW hl) (fun q => ky (by have : ¬ y ≤ x := fun z => q ((le32 hyr hxr).mpr z); omega) H locs lsA hW hl)
theorem a_if_ge (hΓ : Ok Γ cc own nL h kC kS) {x off : Int} {tgt : Nat} (hxr : inR x) (hd : decode cc pc = .ok (.ifCond .ge off, 3)) (ht : (pc : Int) + off = (tgt : Int)) (ky : x < 0 → Wa Γ nL K kc ks (pc + 3) ls st Z) (kn : ¬ x < 0 → Wa Γ nL K kc ks tgt ls st Z) : Wa Γ nL K kc ks pc ls (aI x :: st) Z := by
  obtain ⟨p, l, e, R, s, m, args, below, meth, c, g⟩ := Γ
  obtain ⟨hx, hb, hml, hown, hts, hnw, hK, -⟩ := hΓ
  intro H locs lsA hW hl
  exact lv_if_ge hx hb hd ht (fun q => kn (by have := (le32 inR0 hxr).mp q; omega) H locs lsA hW hl) (fun q => ky (by have : ¬ (0:Int) ≤ x := fun z => q ((le32 inR0 hxr).mpr z); omega) H locs lsA hW hl)
theorem a_icmp_gt (hΓ : Ok Γ cc own nL h kC kS) {x y off : Int} {tgt : Nat} (hxr : inR x) (hyr : inR y) (hd : decode cc pc = .ok (.if_icmp .gt off, 3)) (ht : (pc : Int) + off = (tgt : Int)) (ky : x ≤ y → Wa Γ nL K kc ks (pc + 3) ls st Z) (kn : ¬ x ≤ y → Wa Γ nL K kc ks tgt ls st Z) : Wa Γ nL K kc ks pc ls (aI y :: aI x :: st) Z := by
  obtain ⟨p, l, e, R, s, m, args, below, meth, c, g⟩ := Γ
  obtain ⟨hx, hb, hml, hown, hts, hnw, hK, -⟩ := hΓ
  intro H locs lsA hW hl
  exact lv_icmp_gt hx hb hd ht (fun q => kn (by have := (lt32 hyr hxr).mp q; omega) H locs lsA hW hl) (fun q => ky (by have : ¬ y < x := fun z => q ((lt32 hyr hxr).mpr z); omega) H locs lsA hW hl)
theorem a_if_gt (hΓ : Ok Γ cc own nL h kC kS) {x off : Int} {tgt : Nat} (hxr : inR x) (hd : decode cc pc = .ok (.ifCond .gt off, 3)) (ht : (pc : Int) + off = (tgt : Int)) (ky : x ≤ 0 → Wa Γ nL K kc ks (pc + 3) ls st Z) (kn : ¬ x ≤ 0 → Wa Γ nL K kc ks tgt ls st Z) : Wa Γ nL K kc ks pc ls (aI x :: st) Z := by
  obtain ⟨p, l, e, R, s, m, args, below, meth, c, g⟩ := Γ
  obtain ⟨hx, hb, hml, hown, hts, hnw, hK, -⟩ := hΓ
  intro H locs lsA hW hl
  exact lv_if_gt hx hb hd ht (fun q => kn (by have := (lt32 inR0 hxr).mp q; omega) H locs lsA hW hl) (fun q => ky (by have : ¬ (0:Int) < x := fun z => q ((lt32 inR0 hxr).mpr z); omega) H locs lsA hW hl)
theorem a_icmp_le (hΓ : Ok Γ cc own nL h kC kS) {x y off : Int} {tgt : Nat} (hxr : inR x) (hyr : inR y) (hd : decode cc pc = .ok (.if_icmp .le off, 3)) (ht : (pc : Int) + off = (tgt : Int)) (ky : x ≤ y → Wa Γ nL K kc ks tgt ls st Z) (kn : ¬ x ≤ y → Wa Γ nL K kc ks (pc + 3) ls st Z) : Wa Γ nL K kc ks pc ls (aI y :: aI x :: st) Z := by
  obtain ⟨p, l, e, R, s, m, args, below, meth, c, g⟩ := Γ
  obtain ⟨hx, hb, hml, hown, hts, hnw, hK, -⟩ := hΓ
  intro H locs lsA hW hl
  exact lv_icmp_le hx hb hd ht (fun q => ky ((le32 hxr hyr).mp q) H locs lsA hW hl) (fun q => kn (fun z => q ((le32 hxr hyr).mpr z)) H locs lsA hW hl)
theorem a_if_le (hΓ : Ok Γ cc own nL h kC kS) {x off : Int} {tgt : Nat} (hxr : inR x) (hd : decode cc pc = .ok (.ifCond .le off, 3)) (ht : (pc : Int) + off = (tgt : Int)) (ky : x ≤ 0 → Wa Γ nL K kc ks tgt ls st Z) (kn : ¬ x ≤ 0 → Wa Γ nL K kc ks (pc + 3) ls st Z) : Wa Γ nL K kc ks pc ls (aI x :: st) Z := by
  obtain ⟨p, l, e, R, s, m, args, below, meth, c, g⟩ := Γ
  obtain ⟨hx, hb, hml, hown, hts, hnw, hK, -⟩ := hΓ
  intro H locs lsA hW hl
  exact lv_if_le hx hb hd ht (fun q => ky ((le32 hxr inR0).mp q) H locs lsA hW hl) (fun q => kn (fun z => q ((le32 hxr inR0).mpr z)) H locs lsA hW hl)
theorem a_goto (hΓ : Ok Γ cc own nL h kC kS) {off : Int} {tgt : Nat} (hd : decode cc pc = .ok (.goto off, 3)) (ht : (pc : Int) + off = (tgt : Int)) (k : Wa Γ nL K kc ks tgt ls st Z) : Wa Γ nL K kc ks pc ls st Z := by
  obtain ⟨p, l, e, R, s, m, args, below, meth, c, g⟩ := Γ
  obtain ⟨hx, hb, hml, hown, hts, hnw, hK, -⟩ := hΓ
  intro H locs lsA hW hl
  exact lv_goto hx hb hd ht (k H locs lsA hW hl)
theorem a_tswOut (hΓ : Ok Γ cc own nL h kC kS) {x dflt lo hi : Int} {offs : Array Int} {len tgt : Nat} (hxr : inR x) (hd : decode cc pc = .ok (.tableswitch dflt lo hi offs, len)) (h1 : x < lo ∨ hi < x) (ht : (pc : Int) + dflt = (tgt : Int)) (k : Wa Γ nL K kc ks tgt ls st Z) : Wa Γ nL K kc ks pc ls (aI x :: st) Z := by
  obtain ⟨p, l, e, R, s, m, args, below, meth, c, g⟩ := Γ
  obtain ⟨hx, hb, hml, hown, hts, hnw, hK, -⟩ := hΓ
  intro H locs lsA hW hl
  exact lv_tableOut hx hb hd (by rw [t32 hxr]; exact h1) ht (k H locs lsA hW hl)
theorem a_tswIn (hΓ : Ok Γ cc own nL h kC kS) {x dflt lo hi off : Int} {offs : Array Int} {len tgt : Nat} (hxr : inR x) (hd : decode cc pc = .ok (.tableswitch dflt lo hi offs, len)) (h1 : lo ≤ x) (h2 : x ≤ hi) (ho : offs[(x - lo).toNat]? = some off) (ht : (pc : Int) + off = (tgt : Int)) (k : Wa Γ nL K kc ks tgt ls st Z) : Wa Γ nL K kc ks pc ls (aI x :: st) Z := by
  obtain ⟨p, l, e, R, s, m, args, below, meth, c, g⟩ := Γ
  obtain ⟨hx, hb, hml, hown, hts, hnw, hK, -⟩ := hΓ
  intro H locs lsA hW hl
  exact lv_tableIn hx hb hd (by rw [t32 hxr]; omega) (by rw [t32 hxr]; omega) (by rw [t32 hxr]; exact ho) ht (k H locs lsA hW hl)
end Rows1
