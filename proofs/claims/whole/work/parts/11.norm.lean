/-! ===== rows in the form in which the printed walks use them ===== -/
def Bd (w : (Int → Mm → Prop) → Prop) (k : Int → Mm → Prop) : Prop := ∃ P, w P ∧ ∀ r M, P r M → k r M
def Bv (w : (Mm → Prop) → Prop) (k : Mm → Prop) : Prop := ∃ P, w P ∧ ∀ M, P M → k M
theorem Bd.of {w : (Int → Mm → Prop) → Prop} {k : Int → Mm → Prop} (h : w k) : Bd w k := ⟨k, h, fun _ _ q => q⟩
theorem Bv.of {w : (Mm → Prop) → Prop} {k : Mm → Prop} (h : w k) : Bv w k := ⟨k, h, fun _ q => q⟩
def QI (P : Int → Mm → Prop) : Option AV → Zm → Prop := fun v Z => ∃ r M, v = some (aI r) ∧ Z = (NC, RF, M) ∧ P r M
def QL (P : Int → Mm → Prop) : Option AV → Zm → Prop := fun v Z => ∃ r M, v = some (aL r) ∧ Z = (NC, RF, M) ∧ P r M
def QV (P : Mm → Prop) : Option AV → Zm → Prop := fun v Z => ∃ M, v = none ∧ Z = (NC, RF, M) ∧ P M
theorem inR_ix {i : Int} {n : Nat} (h : 0 ≤ i ∧ i < (n : Int)) (hn : n ≤ 200000) : inR i := by unfold inR; omega
section Rows5
variable {Γ : Cx} {cc : ByteArray} {own : String} {nL h : Nat} {K : State → Prop} {pc : Nat} {ls : List (Nat × AV)} {st : List AV} {M : Mm}
theorem n_getI (hΓ : Ok Γ cc own nL h 0 0) {c ci k idx : Nat} {x : Int} (hf : FLok own idx ci k) (hC : CLok ci) (hKD : KD c = .inl ci) (hc : c < NC ∧ c < 1000) (hd : decode cc pc = .ok (.getfield idx, 3)) (ht : FT ci k = 0 ∨ FT ci k = 3) (hv : M c (k : Int) = x) (kk : Wa Γ nL K 0 0 (pc + 3) ls (aI x :: st) (NC, RF, M)) : Wa Γ nL K 0 0 pc ls (aR c :: st) (NC, RF, M) := by
  refine a_getv (v := aI x) hΓ hf hC hKD hc hd (fun g => ?_) kk
  rw [hv]
  rcases ht with ht | ht <;> rw [ht] <;> rfl
theorem n_getL (hΓ : Ok Γ cc own nL h 0 0) {c ci k idx : Nat} {x : Int} (hf : FLok own idx ci k) (hC : CLok ci) (hKD : KD c = .inl ci) (hc : c < NC ∧ c < 1000) (hd : decode cc pc = .ok (.getfield idx, 3)) (ht : FT ci k = 1) (hv : M c (k : Int) = x) (kk : Wa Γ nL K 0 0 (pc + 3) ls (aL x :: st) (NC, RF, M)) : Wa Γ nL K 0 0 pc ls (aR c :: st) (NC, RF, M) := by
  refine a_getv (v := aL x) hΓ hf hC hKD hc hd (fun g => ?_) kk
  rw [hv, ht]
  rfl
theorem n_getR (hΓ : Ok Γ cc own nL h 0 0) {c ci k idx r : Nat} (hf : FLok own idx ci k) (hC : CLok ci) (hKD : KD c = .inl ci) (hc : c < NC ∧ c < 1000) (hd : decode cc pc = .ok (.getfield idx, 3)) (ht : FT ci k = 2) (hv : RF c k = some r) (kk : Wa Γ nL K 0 0 (pc + 3) ls (aR r :: st) (NC, RF, M)) : Wa Γ nL K 0 0 pc ls (aR c :: st) (NC, RF, M) := by
  refine a_getv (v := aR r) hΓ hf hC hKD hc hd (fun g => ?_) kk
  rw [hv, ht]
  rfl
theorem n_putI (hΓ : Ok Γ cc own nL h 0 0) {c ci k idx : Nat} {x j : Int} (hf : FLok own idx ci k) (hC : CLok ci) (hfin : ∀ q, vwCl[ci]? = some q → (q.2.1 k).2.2.2 = false) (hKD : KD c = .inl ci) (hc : c < NC ∧ c < 1000) (hd : decode cc pc = .ok (.putfield idx, 3)) (hv : FT ci k = 0 ∨ (FT ci k = 3 ∧ (x = 0 ∨ x = 1))) (hj : (k : Int) = j) (kk : Wa Γ nL K 0 0 (pc + 3) ls st (NC, RF, up M c j x)) : Wa Γ nL K 0 0 pc ls (aI x :: aR c :: st) (NC, RF, M) := by
  subst hj
  exact a_putv (v := aI x) hΓ hf hC hfin hKD hc hd hv kk
theorem n_putL (hΓ : Ok Γ cc own nL h 0 0) {c ci k idx : Nat} {x j : Int} (hf : FLok own idx ci k) (hC : CLok ci) (hfin : ∀ q, vwCl[ci]? = some q → (q.2.1 k).2.2.2 = false) (hKD : KD c = .inl ci) (hc : c < NC ∧ c < 1000) (hd : decode cc pc = .ok (.putfield idx, 3)) (hv : FT ci k = 1) (hj : (k : Int) = j) (kk : Wa Γ nL K 0 0 (pc + 3) ls st (NC, RF, up M c j x)) : Wa Γ nL K 0 0 pc ls (aL x :: aR c :: st) (NC, RF, M) := by
  subst hj
  exact a_putv (v := aL x) hΓ hf hC hfin hKD hc hd hv kk
theorem n_iald (hΓ : Ok Γ cc own nL h 0 0) {c n : Nat} {i x : Int} (hd : decode cc pc = .ok (.iaload, 1)) (hKD : KD c = .inr (0, n)) (hc : c < NC ∧ c < 1000) (hi : 0 ≤ i ∧ i < (n : Int)) (hv : M c i = x) (k : Wa Γ nL K 0 0 (pc + 1) ls (aI x :: st) (NC, RF, M)) : Wa Γ nL K 0 0 pc ls (aI i :: aR c :: st) (NC, RF, M) := by
  subst hv
  exact a_iald hΓ hd hKD hc hi k
theorem n_bald (hΓ : Ok Γ cc own nL h 0 0) {c n t : Nat} {i x : Int} (hd : decode cc pc = .ok (.baload, 1)) (hKD : KD c = .inr (t, n)) (ht : t = 1 ∨ t = 2) (hc : c < NC ∧ c < 1000) (hi : 0 ≤ i ∧ i < (n : Int)) (hv : M c i = x) (k : Wa Γ nL K 0 0 (pc + 1) ls (aI x :: st) (NC, RF, M)) : Wa Γ nL K 0 0 pc ls (aI i :: aR c :: st) (NC, RF, M) := by
  subst hv
  rcases ht with rfl | rfl
  · exact a_zald hΓ hd hKD hc hi k
  · exact a_bald hΓ hd hKD hc hi k
theorem n_aald (hΓ : Ok Γ cc own nL h 0 0) {c r0 r1 : Nat} {i : Int} (hd : decode cc pc = .ok (.aaload, 1)) (hKD : KD c = .inr (3, 2)) (hc : c < NC ∧ c < 1000) (hi : 0 ≤ i ∧ i < 2) (h0 : RF c 0 = some r0) (h1 : RF c 1 = some r1) (ky : i = 0 → Wa Γ nL K 0 0 (pc + 1) ls (aR r0 :: st) (NC, RF, M)) (kn : ¬ i = 0 → Wa Γ nL K 0 0 (pc + 1) ls (aR r1 :: st) (NC, RF, M)) : Wa Γ nL K 0 0 pc ls (aI i :: aR c :: st) (NC, RF, M) := by
  obtain ⟨p, l, e, R, s, m, args, below, meth, cd, g⟩ := Γ
  obtain ⟨hx, hb, hml, hown, hts, hnw, hK, -⟩ := hΓ
  intro H locs lsA hW hl
  have e1 := ws_at g (NC, RF, M) hc.1
  rw [ent_q hKD] at e1
  obtain ⟨e2, e3⟩ := clamp32 (i := i) (n := 2) hi (by decide)
  show W p l e R s m args below meth cd H locs 0 0 K (F0 m pc lsA (.int (Int32.ofInt i) :: .ref (adr g c) :: st.map (cv g)))
  rw [adr_lt hc.2]
  refine va_aldq hx hb hK hW.2.1 c 3 e1 rfl e3 hd ?_
  rw [e2]
  by_cases q : i = 0
  · subst q
    have := ky rfl H locs lsA hW hl
    show W p l e R s m args below meth cd H locs 0 0 K (F0 m (pc + 1) lsA (va_rf ((RF c 0).map (adr g)) :: st.map (cv g)))
    rw [h0]
    exact this
  · have q1 : i = 1 := by omega
    subst q1
    have := kn (by decide) H locs lsA hW hl
    show W p l e R s m args below meth cd H locs 0 0 K (F0 m (pc + 1) lsA (va_rf ((RF c 1).map (adr g)) :: st.map (cv g)))
    rw [h1]
    exact this
theorem n_callV (hΓ : Ok Γ cc own nL h 0 0) {y : MethodName} {bytes : ByteArray} {maxL h' n idx c ci : Nat} {ret : Option FieldType} {av stk : List AV} {Q' : Option AV → Zm → Prop} (hM : Ct (cxl Γ) (cxg Γ) y bytes maxL ret h' 0 0 (aR c :: av) (NC, RF, M) Q') (hy : MYok false y bytes maxL ret n) (hl : MLok own idx y) (hni : y.name ≠ "<init>") (hKD : KD c = .inl ci) (hcn : (vwCl[ci]?).map (fun q => q.1) = some y.cls) (hc : c < NC ∧ c < 1000) (hn : av.length = n) (hh : h' + 1 ≤ h) (hmx : maxL ≤ 21) (hcat : avsize st ≤ 8) (hstk : stk = av.reverse ++ aR c :: st) (hd : decode cc pc = .ok (.invokevirtual idx, 3))
    (kk : ∀ (v : Option AV) (Z' : Zm), Q' v Z' → Wa Γ nL K 0 0 (pc + 3) ls (v.toList ++ st) Z') : Wa Γ nL K 0 0 pc ls stk (NC, RF, M) :=
  a_callV hΓ hM hy hl hni hKD hcn hc hn hh hmx ⟨Nat.le_refl 0, Nat.le_refl 0⟩ hcat hstk hd kk
theorem n_callS (hΓ : Ok Γ cc own nL h 0 0) {y : MethodName} {bytes : ByteArray} {maxL h' n idx : Nat} {ret : Option FieldType} {av stk : List AV} {Q' : Option AV → Zm → Prop} (hM : Ct (cxl Γ) (cxg Γ) y bytes maxL ret h' 0 0 av (NC, RF, M) Q') (hy : MYok true y bytes maxL ret n) (hl : MLok own idx y) (hn : av.length = n) (hh : h' + 1 ≤ h) (hmx : maxL ≤ 21) (hcat : avsize st ≤ 8) (hstk : stk = av.reverse ++ st) (hd : decode cc pc = .ok (.invokestatic idx, 3))
    (kk : ∀ (v : Option AV) (Z' : Zm), Q' v Z' → Wa Γ nL K 0 0 (pc + 3) ls (v.toList ++ st) Z') : Wa Γ nL K 0 0 pc ls stk (NC, RF, M) :=
  a_callS hΓ hM hy hl hn hh hmx ⟨Nat.le_refl 0, Nat.le_refl 0⟩ hcat hstk hd kk
theorem n_copy (hΓ : Ok Γ cc own nL h 0 0) {c0 c1 n idx : Nat} {x : Int} (hh : 1 ≤ h) (hl : Cond.methodLink own idx arraycopyName ∈ GW) (hK0 : KD c0 = .inr (0, n)) (hK1 : KD c1 = .inr (0, n)) (hc0 : c0 < NC ∧ c0 < 1000) (hc1 : c1 < NC ∧ c1 < 1000) (hx : (n : Int) = x) (hcat : avsize st ≤ 8) (hd : decode cc pc = .ok (.invokestatic idx, 3)) (kk : Wa Γ nL K 0 0 (pc + 3) ls st (NC, RF, cpy M c0 c1 n)) : Wa Γ nL K 0 0 pc ls (aI x :: aI 0 :: aR c1 :: aI 0 :: aR c0 :: st) (NC, RF, M) := by
  subst hx
  exact a_copy hΓ rfl hh hl ga_native ga_static ga_init hK0 hK1 hc0 hc1 hcat hd kk
end Rows5
theorem inRl {x : Int} (h : -2147483648 ≤ x ∧ x ≤ 2147483647) : inR x := h
theorem inRl64 {x : Int} (h : -9223372036854775808 ≤ x ∧ x ≤ 9223372036854775807) : inR64 x := h
theorem inR_s (z : Int32) : inR z.toInt := by
  have h1 := Int32.le_toInt z
  have h2 := Int32.toInt_lt z
  unfold inR
  omega
theorem inR_land (x y : Int) : inR (landI x y) := inR_s _
theorem inR_lor (x y : Int) : inR (lorI x y) := inR_s _
theorem inR_lxor (x y : Int) : inR (lxorI x y) := inR_s _
theorem inR_shl (x y : Int) : inR (shlI x y) := inR_s _
theorem inR_shr (x y : Int) : inR (shrI x y) := inR_s _
theorem inR_ushr (x y : Int) : inR (ushrI x y) := inR_s _
theorem inR_i2b (x : Int) : inR (i2bI x) := inR_s _
theorem inR_cmp (x y : Int) : inR (cmpI x y) := by
  unfold cmpI inR
  split
  · omega
  · split <;> omega
/-! ===== printed by tools/normgen.py: what each cell is ===== -/
theorem kd_0 : KD 0 = .inl 11 := rfl
theorem lz_0 : 0 < NC ∧ 0 < 1000 := by decide
theorem kd_1 : KD 1 = .inl 0 := rfl
theorem lz_1 : 1 < NC ∧ 1 < 1000 := by decide
theorem kd_2 : KD 2 = .inr (0, 3) := rfl
theorem lz_2 : 2 < NC ∧ 2 < 1000 := by decide
theorem kd_3 : KD 3 = .inr (0, 10) := rfl
theorem lz_3 : 3 < NC ∧ 3 < 1000 := by decide
theorem kd_4 : KD 4 = .inr (0, 10) := rfl
theorem lz_4 : 4 < NC ∧ 4 < 1000 := by decide
theorem kd_5 : KD 5 = .inr (0, 40) := rfl
theorem lz_5 : 5 < NC ∧ 5 < 1000 := by decide
theorem kd_6 : KD 6 = .inr (0, 40) := rfl
theorem lz_6 : 6 < NC ∧ 6 < 1000 := by decide
theorem kd_7 : KD 7 = .inr (0, 40) := rfl
theorem lz_7 : 7 < NC ∧ 7 < 1000 := by decide
theorem kd_8 : KD 8 = .inl 3 := rfl
theorem lz_8 : 8 < NC ∧ 8 < 1000 := by decide
theorem kd_9 : KD 9 = .inr (0, 60) := rfl
theorem lz_9 : 9 < NC ∧ 9 < 1000 := by decide
theorem kd_10 : KD 10 = .inr (0, 60) := rfl
theorem lz_10 : 10 < NC ∧ 10 < 1000 := by decide
theorem kd_11 : KD 11 = .inr (0, 60) := rfl
theorem lz_11 : 11 < NC ∧ 11 < 1000 := by decide
theorem kd_12 : KD 12 = .inr (0, 60) := rfl
theorem lz_12 : 12 < NC ∧ 12 < 1000 := by decide
theorem kd_13 : KD 13 = .inr (0, 60) := rfl
theorem lz_13 : 13 < NC ∧ 13 < 1000 := by decide
theorem kd_14 : KD 14 = .inr (0, 60) := rfl
theorem lz_14 : 14 < NC ∧ 14 < 1000 := by decide
theorem kd_15 : KD 15 = .inl 4 := rfl
theorem lz_15 : 15 < NC ∧ 15 < 1000 := by decide
theorem kd_16 : KD 16 = .inr (0, 24) := rfl
theorem lz_16 : 16 < NC ∧ 16 < 1000 := by decide
theorem kd_17 : KD 17 = .inr (0, 24) := rfl
theorem lz_17 : 17 < NC ∧ 17 < 1000 := by decide
theorem kd_18 : KD 18 = .inr (0, 24) := rfl
theorem lz_18 : 18 < NC ∧ 18 < 1000 := by decide
theorem kd_19 : KD 19 = .inr (0, 24) := rfl
theorem lz_19 : 19 < NC ∧ 19 < 1000 := by decide
theorem kd_20 : KD 20 = .inr (0, 24) := rfl
theorem lz_20 : 20 < NC ∧ 20 < 1000 := by decide
theorem kd_21 : KD 21 = .inr (0, 24) := rfl
theorem lz_21 : 21 < NC ∧ 21 < 1000 := by decide
theorem kd_22 : KD 22 = .inr (1, 24) := rfl
theorem lz_22 : 22 < NC ∧ 22 < 1000 := by decide
theorem kd_23 : KD 23 = .inr (1, 24) := rfl
theorem lz_23 : 23 < NC ∧ 23 < 1000 := by decide
theorem kd_24 : KD 24 = .inr (3, 2) := rfl
theorem lz_24 : 24 < NC ∧ 24 < 1000 := by decide
theorem kd_25 : KD 25 = .inl 0 := rfl
theorem lz_25 : 25 < NC ∧ 25 < 1000 := by decide
theorem kd_26 : KD 26 = .inr (0, 3) := rfl
theorem lz_26 : 26 < NC ∧ 26 < 1000 := by decide
theorem kd_27 : KD 27 = .inr (0, 10) := rfl
theorem lz_27 : 27 < NC ∧ 27 < 1000 := by decide
theorem kd_28 : KD 28 = .inr (0, 10) := rfl
theorem lz_28 : 28 < NC ∧ 28 < 1000 := by decide
theorem kd_29 : KD 29 = .inr (0, 40) := rfl
theorem lz_29 : 29 < NC ∧ 29 < 1000 := by decide
theorem kd_30 : KD 30 = .inr (0, 40) := rfl
theorem lz_30 : 30 < NC ∧ 30 < 1000 := by decide
theorem kd_31 : KD 31 = .inr (0, 40) := rfl
theorem lz_31 : 31 < NC ∧ 31 < 1000 := by decide
theorem kd_32 : KD 32 = .inl 3 := rfl
theorem lz_32 : 32 < NC ∧ 32 < 1000 := by decide
theorem kd_33 : KD 33 = .inr (0, 60) := rfl
theorem lz_33 : 33 < NC ∧ 33 < 1000 := by decide
theorem kd_34 : KD 34 = .inr (0, 60) := rfl
theorem lz_34 : 34 < NC ∧ 34 < 1000 := by decide
theorem kd_35 : KD 35 = .inr (0, 60) := rfl
theorem lz_35 : 35 < NC ∧ 35 < 1000 := by decide
theorem kd_36 : KD 36 = .inr (0, 60) := rfl
theorem lz_36 : 36 < NC ∧ 36 < 1000 := by decide
theorem kd_37 : KD 37 = .inr (0, 60) := rfl
theorem lz_37 : 37 < NC ∧ 37 < 1000 := by decide
theorem kd_38 : KD 38 = .inr (0, 60) := rfl
theorem lz_38 : 38 < NC ∧ 38 < 1000 := by decide
theorem kd_39 : KD 39 = .inl 4 := rfl
theorem lz_39 : 39 < NC ∧ 39 < 1000 := by decide
theorem kd_40 : KD 40 = .inr (0, 24) := rfl
theorem lz_40 : 40 < NC ∧ 40 < 1000 := by decide
theorem kd_41 : KD 41 = .inr (0, 24) := rfl
theorem lz_41 : 41 < NC ∧ 41 < 1000 := by decide
theorem kd_42 : KD 42 = .inr (0, 24) := rfl
theorem lz_42 : 42 < NC ∧ 42 < 1000 := by decide
theorem kd_43 : KD 43 = .inr (0, 24) := rfl
theorem lz_43 : 43 < NC ∧ 43 < 1000 := by decide
theorem kd_44 : KD 44 = .inr (0, 24) := rfl
theorem lz_44 : 44 < NC ∧ 44 < 1000 := by decide
theorem kd_45 : KD 45 = .inr (0, 24) := rfl
theorem lz_45 : 45 < NC ∧ 45 < 1000 := by decide
theorem kd_46 : KD 46 = .inr (1, 24) := rfl
theorem lz_46 : 46 < NC ∧ 46 < 1000 := by decide
theorem kd_47 : KD 47 = .inr (1, 24) := rfl
theorem lz_47 : 47 < NC ∧ 47 < 1000 := by decide
theorem kd_48 : KD 48 = .inl 0 := rfl
theorem lz_48 : 48 < NC ∧ 48 < 1000 := by decide
theorem kd_49 : KD 49 = .inr (0, 3) := rfl
theorem lz_49 : 49 < NC ∧ 49 < 1000 := by decide
theorem kd_50 : KD 50 = .inr (0, 10) := rfl
theorem lz_50 : 50 < NC ∧ 50 < 1000 := by decide
theorem kd_51 : KD 51 = .inr (0, 10) := rfl
theorem lz_51 : 51 < NC ∧ 51 < 1000 := by decide
theorem kd_52 : KD 52 = .inr (0, 40) := rfl
theorem lz_52 : 52 < NC ∧ 52 < 1000 := by decide
theorem kd_53 : KD 53 = .inr (0, 40) := rfl
theorem lz_53 : 53 < NC ∧ 53 < 1000 := by decide
theorem kd_54 : KD 54 = .inr (0, 40) := rfl
theorem lz_54 : 54 < NC ∧ 54 < 1000 := by decide
theorem kd_55 : KD 55 = .inl 3 := rfl
theorem lz_55 : 55 < NC ∧ 55 < 1000 := by decide
theorem kd_56 : KD 56 = .inr (0, 60) := rfl
theorem lz_56 : 56 < NC ∧ 56 < 1000 := by decide
theorem kd_57 : KD 57 = .inr (0, 60) := rfl
theorem lz_57 : 57 < NC ∧ 57 < 1000 := by decide
theorem kd_58 : KD 58 = .inr (0, 60) := rfl
theorem lz_58 : 58 < NC ∧ 58 < 1000 := by decide
theorem kd_59 : KD 59 = .inr (0, 60) := rfl
theorem lz_59 : 59 < NC ∧ 59 < 1000 := by decide
theorem kd_60 : KD 60 = .inr (0, 60) := rfl
theorem lz_60 : 60 < NC ∧ 60 < 1000 := by decide
theorem kd_61 : KD 61 = .inr (0, 60) := rfl
theorem lz_61 : 61 < NC ∧ 61 < 1000 := by decide
theorem kd_62 : KD 62 = .inl 4 := rfl
theorem lz_62 : 62 < NC ∧ 62 < 1000 := by decide
theorem kd_63 : KD 63 = .inr (0, 24) := rfl
theorem lz_63 : 63 < NC ∧ 63 < 1000 := by decide
theorem kd_64 : KD 64 = .inr (0, 24) := rfl
theorem lz_64 : 64 < NC ∧ 64 < 1000 := by decide
theorem kd_65 : KD 65 = .inr (0, 24) := rfl
theorem lz_65 : 65 < NC ∧ 65 < 1000 := by decide
theorem kd_66 : KD 66 = .inr (0, 24) := rfl
theorem lz_66 : 66 < NC ∧ 66 < 1000 := by decide
theorem kd_67 : KD 67 = .inr (0, 24) := rfl
theorem lz_67 : 67 < NC ∧ 67 < 1000 := by decide
theorem kd_68 : KD 68 = .inr (0, 24) := rfl
theorem lz_68 : 68 < NC ∧ 68 < 1000 := by decide
theorem kd_69 : KD 69 = .inr (1, 24) := rfl
theorem lz_69 : 69 < NC ∧ 69 < 1000 := by decide
theorem kd_70 : KD 70 = .inr (1, 24) := rfl
theorem lz_70 : 70 < NC ∧ 70 < 1000 := by decide
theorem kd_71 : KD 71 = .inr (1, 2) := rfl
theorem lz_71 : 71 < NC ∧ 71 < 1000 := by decide
theorem kd_72 : KD 72 = .inl 6 := rfl
theorem lz_72 : 72 < NC ∧ 72 < 1000 := by decide
theorem kd_73 : KD 73 = .inr (0, 120) := rfl
theorem lz_73 : 73 < NC ∧ 73 < 1000 := by decide
theorem kd_74 : KD 74 = .inr (0, 120) := rfl
theorem lz_74 : 74 < NC ∧ 74 < 1000 := by decide
theorem kd_75 : KD 75 = .inr (0, 120) := rfl
theorem lz_75 : 75 < NC ∧ 75 < 1000 := by decide
theorem kd_76 : KD 76 = .inr (0, 120) := rfl
theorem lz_76 : 76 < NC ∧ 76 < 1000 := by decide
theorem kd_77 : KD 77 = .inr (0, 120) := rfl
theorem lz_77 : 77 < NC ∧ 77 < 1000 := by decide
theorem kd_78 : KD 78 = .inr (1, 120) := rfl
theorem lz_78 : 78 < NC ∧ 78 < 1000 := by decide
theorem kd_79 : KD 79 = .inr (0, 24) := rfl
theorem lz_79 : 79 < NC ∧ 79 < 1000 := by decide
theorem kd_80 : KD 80 = .inr (0, 24) := rfl
theorem lz_80 : 80 < NC ∧ 80 < 1000 := by decide
theorem kd_81 : KD 81 = .inr (0, 120) := rfl
theorem lz_81 : 81 < NC ∧ 81 < 1000 := by decide
theorem kd_82 : KD 82 = .inr (0, 120) := rfl
theorem lz_82 : 82 < NC ∧ 82 < 1000 := by decide
theorem kd_83 : KD 83 = .inl 2 := rfl
theorem lz_83 : 83 < NC ∧ 83 < 1000 := by decide
theorem kd_84 : KD 84 = .inr (0, 24) := rfl
theorem lz_84 : 84 < NC ∧ 84 < 1000 := by decide
theorem kd_85 : KD 85 = .inl 1 := rfl
theorem lz_85 : 85 < NC ∧ 85 < 1000 := by decide
theorem kd_86 : KD 86 = .inl 8 := rfl
theorem lz_86 : 86 < NC ∧ 86 < 1000 := by decide
theorem kd_87 : KD 87 = .inr (0, 2000) := rfl
theorem lz_87 : 87 < NC ∧ 87 < 1000 := by decide
theorem kd_88 : KD 88 = .inl 10 := rfl
theorem lz_88 : 88 < NC ∧ 88 < 1000 := by decide
theorem kd_89 : KD 89 = .inr (0, 400) := rfl
theorem lz_89 : 89 < NC ∧ 89 < 1000 := by decide
theorem kd_90 : KD 90 = .inl 5 := rfl
theorem lz_90 : 90 < NC ∧ 90 < 1000 := by decide
theorem kd_91 : KD 91 = .inl 9 := rfl
theorem lz_91 : 91 < NC ∧ 91 < 1000 := by decide
theorem kd_92 : KD 92 = .inr (0, 96) := rfl
theorem lz_92 : 92 < NC ∧ 92 < 1000 := by decide
theorem kd_93 : KD 93 = .inr (0, 96) := rfl
theorem lz_93 : 93 < NC ∧ 93 < 1000 := by decide
theorem kd_94 : KD 94 = .inr (0, 120) := rfl
theorem lz_94 : 94 < NC ∧ 94 < 1000 := by decide
theorem kd_95 : KD 95 = .inr (0, 120) := rfl
theorem lz_95 : 95 < NC ∧ 95 < 1000 := by decide
theorem kd_96 : KD 96 = .inr (0, 120) := rfl
theorem lz_96 : 96 < NC ∧ 96 < 1000 := by decide
theorem kd_97 : KD 97 = .inr (0, 120) := rfl
theorem lz_97 : 97 < NC ∧ 97 < 1000 := by decide
theorem kd_98 : KD 98 = .inr (0, 120) := rfl
theorem lz_98 : 98 < NC ∧ 98 < 1000 := by decide
theorem kd_99 : KD 99 = .inr (0, 2) := rfl
theorem lz_99 : 99 < NC ∧ 99 < 1000 := by decide
theorem kd_100 : KD 100 = .inl 7 := rfl
theorem lz_100 : 100 < NC ∧ 100 < 1000 := by decide
theorem kd_101 : KD 101 = .inr (0, 120) := rfl
theorem lz_101 : 101 < NC ∧ 101 < 1000 := by decide
theorem kd_102 : KD 102 = .inl 12 := rfl
theorem lz_102 : 102 < NC ∧ 102 < 1000 := by decide
theorem kd_103 : KD 103 = .inr (0, 730) := rfl
theorem lz_103 : 103 < NC ∧ 103 < 1000 := by decide
theorem kd_104 : KD 104 = .inr (0, 1460) := rfl
theorem lz_104 : 104 < NC ∧ 104 < 1000 := by decide
theorem kd_105 : KD 105 = .inr (1, 2) := rfl
theorem lz_105 : 105 < NC ∧ 105 < 1000 := by decide
theorem kd_106 : KD 106 = .inr (0, 120) := rfl
theorem lz_106 : 106 < NC ∧ 106 < 1000 := by decide
theorem kd_107 : KD 107 = .inr (0, 120) := rfl
theorem lz_107 : 107 < NC ∧ 107 < 1000 := by decide
theorem kd_108 : KD 108 = .inr (0, 120) := rfl
theorem lz_108 : 108 < NC ∧ 108 < 1000 := by decide
theorem kd_109 : KD 109 = .inr (0, 120) := rfl
theorem lz_109 : 109 < NC ∧ 109 < 1000 := by decide
theorem kd_110 : KD 110 = .inr (0, 24) := rfl
theorem lz_110 : 110 < NC ∧ 110 < 1000 := by decide
theorem kd_111 : KD 111 = .inr (2, 2000) := rfl
theorem lz_111 : 111 < NC ∧ 111 < 1000 := by decide
theorem kd_112 : KD 112 = .inr (2, 2000) := rfl
theorem lz_112 : 112 < NC ∧ 112 < 1000 := by decide
theorem kd_113 : KD 113 = .inr (0, 24) := rfl
theorem lz_113 : 113 < NC ∧ 113 < 1000 := by decide
theorem kd_114 : KD 114 = .inr (2, 400) := rfl
theorem lz_114 : 114 < NC ∧ 114 < 1000 := by decide
theorem kd_115 : KD 115 = .inr (2, 400) := rfl
theorem lz_115 : 115 < NC ∧ 115 < 1000 := by decide
theorem kd_116 : KD 116 = .inr (0, 5) := rfl
theorem lz_116 : 116 < NC ∧ 116 < 1000 := by decide
theorem kd_117 : KD 117 = .inr (0, 120120) := rfl
theorem lz_117 : 117 < NC ∧ 117 < 1000 := by decide
theorem kd_118 : KD 118 = .inr (0, 120120) := rfl
theorem lz_118 : 118 < NC ∧ 118 < 1000 := by decide
theorem kd_119 : KD 119 = .inr (0, 1001) := rfl
theorem lz_119 : 119 < NC ∧ 119 < 1000 := by decide
theorem kd_120 : KD 120 = .inr (0, 1001) := rfl
theorem lz_120 : 120 < NC ∧ 120 < 1000 := by decide
theorem kd_121 : KD 121 = .inr (0, 14400) := rfl
theorem lz_121 : 121 < NC ∧ 121 < 1000 := by decide
theorem kd_122 : KD 122 = .inr (0, 120) := rfl
theorem lz_122 : 122 < NC ∧ 122 < 1000 := by decide
theorem kd_123 : KD 123 = .inr (0, 1001) := rfl
theorem lz_123 : 123 < NC ∧ 123 < 1000 := by decide
theorem kd_124 : KD 124 = .inr (0, 2) := rfl
theorem lz_124 : 124 < NC ∧ 124 < 1000 := by decide
theorem kd_125 : KD 125 = .inr (0, 7) := rfl
theorem lz_125 : 125 < NC ∧ 125 < 1000 := by decide
theorem ft_0_0 : FT 0 0 = 0 := rfl
theorem nf_0_0 : ∀ q, vwCl[0]? = some q → (q.2.1 0).2.2.2 = false := fun q h => by cases h; rfl
theorem ft_0_1 : FT 0 1 = 0 := rfl
theorem nf_0_1 : ∀ q, vwCl[0]? = some q → (q.2.1 1).2.2.2 = false := fun q h => by cases h; rfl
theorem ft_0_2 : FT 0 2 = 0 := rfl
theorem nf_0_2 : ∀ q, vwCl[0]? = some q → (q.2.1 2).2.2.2 = false := fun q h => by cases h; rfl
theorem ft_0_3 : FT 0 3 = 0 := rfl
theorem nf_0_3 : ∀ q, vwCl[0]? = some q → (q.2.1 3).2.2.2 = false := fun q h => by cases h; rfl
theorem ft_0_4 : FT 0 4 = 0 := rfl
theorem nf_0_4 : ∀ q, vwCl[0]? = some q → (q.2.1 4).2.2.2 = false := fun q h => by cases h; rfl
theorem ft_0_5 : FT 0 5 = 1 := rfl
theorem nf_0_5 : ∀ q, vwCl[0]? = some q → (q.2.1 5).2.2.2 = false := fun q h => by cases h; rfl
theorem ft_0_6 : FT 0 6 = 1 := rfl
theorem nf_0_6 : ∀ q, vwCl[0]? = some q → (q.2.1 6).2.2.2 = false := fun q h => by cases h; rfl
theorem ft_0_7 : FT 0 7 = 2 := rfl
theorem ft_0_8 : FT 0 8 = 2 := rfl
theorem ft_0_9 : FT 0 9 = 2 := rfl
theorem ft_0_10 : FT 0 10 = 2 := rfl
theorem ft_0_11 : FT 0 11 = 2 := rfl
theorem ft_0_12 : FT 0 12 = 2 := rfl
theorem ft_0_13 : FT 0 13 = 2 := rfl
theorem ft_0_14 : FT 0 14 = 2 := rfl
theorem ft_1_0 : FT 1 0 = 2 := rfl
theorem ft_1_1 : FT 1 1 = 1 := rfl
theorem nf_1_1 : ∀ q, vwCl[1]? = some q → (q.2.1 1).2.2.2 = false := fun q h => by cases h; rfl
theorem ft_1_2 : FT 1 2 = 0 := rfl
theorem nf_1_2 : ∀ q, vwCl[1]? = some q → (q.2.1 2).2.2.2 = false := fun q h => by cases h; rfl
theorem ft_2_0 : FT 2 0 = 2 := rfl
theorem ft_2_1 : FT 2 1 = 2 := rfl
theorem ft_2_2 : FT 2 2 = 2 := rfl
theorem ft_2_3 : FT 2 3 = 0 := rfl
theorem nf_2_3 : ∀ q, vwCl[2]? = some q → (q.2.1 3).2.2.2 = false := fun q h => by cases h; rfl
theorem ft_2_4 : FT 2 4 = 0 := rfl
theorem nf_2_4 : ∀ q, vwCl[2]? = some q → (q.2.1 4).2.2.2 = false := fun q h => by cases h; rfl
theorem ft_3_0 : FT 3 0 = 0 := rfl
theorem nf_3_0 : ∀ q, vwCl[3]? = some q → (q.2.1 0).2.2.2 = false := fun q h => by cases h; rfl
theorem ft_3_1 : FT 3 1 = 2 := rfl
theorem ft_3_2 : FT 3 2 = 2 := rfl
theorem ft_3_3 : FT 3 3 = 2 := rfl
theorem ft_3_4 : FT 3 4 = 2 := rfl
theorem ft_3_5 : FT 3 5 = 2 := rfl
theorem ft_3_6 : FT 3 6 = 2 := rfl
theorem ft_4_0 : FT 4 0 = 0 := rfl
theorem nf_4_0 : ∀ q, vwCl[4]? = some q → (q.2.1 0).2.2.2 = false := fun q h => by cases h; rfl
theorem ft_4_1 : FT 4 1 = 2 := rfl
theorem ft_4_2 : FT 4 2 = 2 := rfl
theorem ft_4_3 : FT 4 3 = 2 := rfl
theorem ft_4_4 : FT 4 4 = 2 := rfl
theorem ft_4_5 : FT 4 5 = 2 := rfl
theorem ft_4_6 : FT 4 6 = 2 := rfl
theorem ft_4_7 : FT 4 7 = 2 := rfl
theorem ft_4_8 : FT 4 8 = 2 := rfl
theorem ft_5_0 : FT 5 0 = 2 := rfl
theorem ft_5_1 : FT 5 1 = 2 := rfl
theorem ft_5_2 : FT 5 2 = 2 := rfl
theorem ft_5_3 : FT 5 3 = 2 := rfl
theorem ft_5_4 : FT 5 4 = 2 := rfl
theorem ft_5_5 : FT 5 5 = 2 := rfl
theorem ft_5_6 : FT 5 6 = 2 := rfl
theorem ft_5_7 : FT 5 7 = 3 := rfl
theorem nf_5_7 : ∀ q, vwCl[5]? = some q → (q.2.1 7).2.2.2 = false := fun q h => by cases h; rfl
theorem ft_5_8 : FT 5 8 = 0 := rfl
theorem nf_5_8 : ∀ q, vwCl[5]? = some q → (q.2.1 8).2.2.2 = false := fun q h => by cases h; rfl
theorem ft_5_9 : FT 5 9 = 0 := rfl
theorem nf_5_9 : ∀ q, vwCl[5]? = some q → (q.2.1 9).2.2.2 = false := fun q h => by cases h; rfl
theorem ft_5_10 : FT 5 10 = 0 := rfl
theorem nf_5_10 : ∀ q, vwCl[5]? = some q → (q.2.1 10).2.2.2 = false := fun q h => by cases h; rfl
theorem ft_5_11 : FT 5 11 = 0 := rfl
theorem nf_5_11 : ∀ q, vwCl[5]? = some q → (q.2.1 11).2.2.2 = false := fun q h => by cases h; rfl
theorem ft_5_12 : FT 5 12 = 0 := rfl
theorem nf_5_12 : ∀ q, vwCl[5]? = some q → (q.2.1 12).2.2.2 = false := fun q h => by cases h; rfl
theorem ft_5_13 : FT 5 13 = 2 := rfl
theorem ft_6_0 : FT 6 0 = 2 := rfl
theorem ft_6_1 : FT 6 1 = 0 := rfl
theorem nf_6_1 : ∀ q, vwCl[6]? = some q → (q.2.1 1).2.2.2 = false := fun q h => by cases h; rfl
theorem ft_6_2 : FT 6 2 = 2 := rfl
theorem ft_6_3 : FT 6 3 = 2 := rfl
theorem ft_6_4 : FT 6 4 = 2 := rfl
theorem ft_6_5 : FT 6 5 = 2 := rfl
theorem ft_6_6 : FT 6 6 = 2 := rfl
theorem ft_6_7 : FT 6 7 = 2 := rfl
theorem ft_6_8 : FT 6 8 = 0 := rfl
theorem nf_6_8 : ∀ q, vwCl[6]? = some q → (q.2.1 8).2.2.2 = false := fun q h => by cases h; rfl
theorem ft_6_9 : FT 6 9 = 2 := rfl
theorem ft_6_10 : FT 6 10 = 2 := rfl
theorem ft_6_11 : FT 6 11 = 2 := rfl
theorem ft_6_12 : FT 6 12 = 2 := rfl
theorem ft_7_0 : FT 7 0 = 2 := rfl
theorem ft_7_1 : FT 7 1 = 0 := rfl
theorem nf_7_1 : ∀ q, vwCl[7]? = some q → (q.2.1 1).2.2.2 = false := fun q h => by cases h; rfl
theorem ft_7_2 : FT 7 2 = 2 := rfl
theorem ft_8_0 : FT 8 0 = 2 := rfl
theorem ft_8_1 : FT 8 1 = 2 := rfl
theorem ft_8_2 : FT 8 2 = 0 := rfl
theorem nf_8_2 : ∀ q, vwCl[8]? = some q → (q.2.1 2).2.2.2 = false := fun q h => by cases h; rfl
theorem ft_8_3 : FT 8 3 = 0 := rfl
theorem nf_8_3 : ∀ q, vwCl[8]? = some q → (q.2.1 3).2.2.2 = false := fun q h => by cases h; rfl
theorem ft_8_4 : FT 8 4 = 0 := rfl
theorem nf_8_4 : ∀ q, vwCl[8]? = some q → (q.2.1 4).2.2.2 = false := fun q h => by cases h; rfl
theorem ft_8_5 : FT 8 5 = 3 := rfl
theorem nf_8_5 : ∀ q, vwCl[8]? = some q → (q.2.1 5).2.2.2 = false := fun q h => by cases h; rfl
theorem ft_9_0 : FT 9 0 = 0 := rfl
theorem nf_9_0 : ∀ q, vwCl[9]? = some q → (q.2.1 0).2.2.2 = false := fun q h => by cases h; rfl
theorem ft_9_1 : FT 9 1 = 0 := rfl
theorem nf_9_1 : ∀ q, vwCl[9]? = some q → (q.2.1 1).2.2.2 = false := fun q h => by cases h; rfl
theorem ft_9_2 : FT 9 2 = 0 := rfl
theorem nf_9_2 : ∀ q, vwCl[9]? = some q → (q.2.1 2).2.2.2 = false := fun q h => by cases h; rfl
theorem ft_9_3 : FT 9 3 = 0 := rfl
theorem nf_9_3 : ∀ q, vwCl[9]? = some q → (q.2.1 3).2.2.2 = false := fun q h => by cases h; rfl
theorem ft_9_4 : FT 9 4 = 0 := rfl
theorem nf_9_4 : ∀ q, vwCl[9]? = some q → (q.2.1 4).2.2.2 = false := fun q h => by cases h; rfl
theorem ft_9_5 : FT 9 5 = 2 := rfl
theorem ft_9_6 : FT 9 6 = 2 := rfl
theorem ft_10_0 : FT 10 0 = 2 := rfl
theorem ft_10_1 : FT 10 1 = 2 := rfl
theorem ft_10_2 : FT 10 2 = 0 := rfl
theorem nf_10_2 : ∀ q, vwCl[10]? = some q → (q.2.1 2).2.2.2 = false := fun q h => by cases h; rfl
theorem ft_10_3 : FT 10 3 = 0 := rfl
theorem nf_10_3 : ∀ q, vwCl[10]? = some q → (q.2.1 3).2.2.2 = false := fun q h => by cases h; rfl
theorem ft_10_4 : FT 10 4 = 0 := rfl
theorem nf_10_4 : ∀ q, vwCl[10]? = some q → (q.2.1 4).2.2.2 = false := fun q h => by cases h; rfl
theorem ft_10_5 : FT 10 5 = 0 := rfl
theorem nf_10_5 : ∀ q, vwCl[10]? = some q → (q.2.1 5).2.2.2 = false := fun q h => by cases h; rfl
theorem ft_10_6 : FT 10 6 = 0 := rfl
theorem nf_10_6 : ∀ q, vwCl[10]? = some q → (q.2.1 6).2.2.2 = false := fun q h => by cases h; rfl
theorem ft_10_7 : FT 10 7 = 0 := rfl
theorem nf_10_7 : ∀ q, vwCl[10]? = some q → (q.2.1 7).2.2.2 = false := fun q h => by cases h; rfl
theorem ft_10_8 : FT 10 8 = 0 := rfl
theorem nf_10_8 : ∀ q, vwCl[10]? = some q → (q.2.1 8).2.2.2 = false := fun q h => by cases h; rfl
theorem ft_11_0 : FT 11 0 = 2 := rfl
theorem ft_11_1 : FT 11 1 = 2 := rfl
theorem ft_11_2 : FT 11 2 = 2 := rfl
theorem ft_11_3 : FT 11 3 = 2 := rfl
theorem ft_11_4 : FT 11 4 = 2 := rfl
theorem ft_11_5 : FT 11 5 = 2 := rfl
theorem ft_11_6 : FT 11 6 = 2 := rfl
theorem ft_11_7 : FT 11 7 = 2 := rfl
theorem ft_11_8 : FT 11 8 = 2 := rfl
theorem ft_11_9 : FT 11 9 = 2 := rfl
theorem ft_11_10 : FT 11 10 = 0 := rfl
theorem nf_11_10 : ∀ q, vwCl[11]? = some q → (q.2.1 10).2.2.2 = false := fun q h => by cases h; rfl
theorem ft_11_11 : FT 11 11 = 0 := rfl
theorem nf_11_11 : ∀ q, vwCl[11]? = some q → (q.2.1 11).2.2.2 = false := fun q h => by cases h; rfl
theorem ft_11_12 : FT 11 12 = 3 := rfl
theorem nf_11_12 : ∀ q, vwCl[11]? = some q → (q.2.1 12).2.2.2 = false := fun q h => by cases h; rfl
theorem ft_12_0 : FT 12 0 = 0 := rfl
theorem nf_12_0 : ∀ q, vwCl[12]? = some q → (q.2.1 0).2.2.2 = false := fun q h => by cases h; rfl
theorem ft_12_1 : FT 12 1 = 2 := rfl
theorem ft_12_2 : FT 12 2 = 2 := rfl
theorem ft_12_3 : FT 12 3 = 2 := rfl
theorem ft_12_4 : FT 12 4 = 2 := rfl
theorem ft_12_5 : FT 12 5 = 2 := rfl
theorem ft_12_6 : FT 12 6 = 2 := rfl
theorem ft_12_7 : FT 12 7 = 2 := rfl
theorem ft_12_8 : FT 12 8 = 0 := rfl
theorem nf_12_8 : ∀ q, vwCl[12]? = some q → (q.2.1 8).2.2.2 = false := fun q h => by cases h; rfl
theorem ft_12_9 : FT 12 9 = 0 := rfl
theorem nf_12_9 : ∀ q, vwCl[12]? = some q → (q.2.1 9).2.2.2 = false := fun q h => by cases h; rfl
theorem ft_12_10 : FT 12 10 = 2 := rfl
theorem ft_12_11 : FT 12 11 = 0 := rfl
theorem nf_12_11 : ∀ q, vwCl[12]? = some q → (q.2.1 11).2.2.2 = false := fun q h => by cases h; rfl
theorem ft_12_12 : FT 12 12 = 0 := rfl
theorem nf_12_12 : ∀ q, vwCl[12]? = some q → (q.2.1 12).2.2.2 = false := fun q h => by cases h; rfl
theorem ft_12_13 : FT 12 13 = 0 := rfl
theorem nf_12_13 : ∀ q, vwCl[12]? = some q → (q.2.1 13).2.2.2 = false := fun q h => by cases h; rfl
theorem ft_12_14 : FT 12 14 = 0 := rfl
theorem nf_12_14 : ∀ q, vwCl[12]? = some q → (q.2.1 14).2.2.2 = false := fun q h => by cases h; rfl
theorem ft_12_15 : FT 12 15 = 2 := rfl
theorem ft_12_16 : FT 12 16 = 2 := rfl
theorem ft_12_17 : FT 12 17 = 0 := rfl
theorem nf_12_17 : ∀ q, vwCl[12]? = some q → (q.2.1 17).2.2.2 = false := fun q h => by cases h; rfl
theorem ft_12_18 : FT 12 18 = 0 := rfl
theorem nf_12_18 : ∀ q, vwCl[12]? = some q → (q.2.1 18).2.2.2 = false := fun q h => by cases h; rfl
theorem ft_12_19 : FT 12 19 = 0 := rfl
theorem nf_12_19 : ∀ q, vwCl[12]? = some q → (q.2.1 19).2.2.2 = false := fun q h => by cases h; rfl
theorem ft_12_20 : FT 12 20 = 2 := rfl
theorem ft_12_21 : FT 12 21 = 0 := rfl
theorem nf_12_21 : ∀ q, vwCl[12]? = some q → (q.2.1 21).2.2.2 = false := fun q h => by cases h; rfl
theorem ft_12_22 : FT 12 22 = 2 := rfl
theorem ft_12_23 : FT 12 23 = 2 := rfl
theorem ft_12_24 : FT 12 24 = 2 := rfl
theorem ft_12_25 : FT 12 25 = 0 := rfl
theorem nf_12_25 : ∀ q, vwCl[12]? = some q → (q.2.1 25).2.2.2 = false := fun q h => by cases h; rfl
theorem ft_12_26 : FT 12 26 = 0 := rfl
theorem nf_12_26 : ∀ q, vwCl[12]? = some q → (q.2.1 26).2.2.2 = false := fun q h => by cases h; rfl
theorem ft_12_27 : FT 12 27 = 0 := rfl
theorem nf_12_27 : ∀ q, vwCl[12]? = some q → (q.2.1 27).2.2.2 = false := fun q h => by cases h; rfl
theorem ft_12_28 : FT 12 28 = 0 := rfl
theorem nf_12_28 : ∀ q, vwCl[12]? = some q → (q.2.1 28).2.2.2 = false := fun q h => by cases h; rfl
theorem ft_12_29 : FT 12 29 = 0 := rfl
theorem nf_12_29 : ∀ q, vwCl[12]? = some q → (q.2.1 29).2.2.2 = false := fun q h => by cases h; rfl
theorem ft_12_30 : FT 12 30 = 0 := rfl
theorem nf_12_30 : ∀ q, vwCl[12]? = some q → (q.2.1 30).2.2.2 = false := fun q h => by cases h; rfl
theorem ft_12_31 : FT 12 31 = 0 := rfl
theorem nf_12_31 : ∀ q, vwCl[12]? = some q → (q.2.1 31).2.2.2 = false := fun q h => by cases h; rfl
theorem ft_12_32 : FT 12 32 = 2 := rfl
theorem ft_12_33 : FT 12 33 = 2 := rfl
theorem ft_12_34 : FT 12 34 = 2 := rfl
theorem ft_12_35 : FT 12 35 = 2 := rfl
theorem ft_12_36 : FT 12 36 = 2 := rfl
theorem ft_12_37 : FT 12 37 = 2 := rfl
theorem ft_12_38 : FT 12 38 = 3 := rfl
theorem nf_12_38 : ∀ q, vwCl[12]? = some q → (q.2.1 38).2.2.2 = false := fun q h => by cases h; rfl
theorem ft_12_39 : FT 12 39 = 2 := rfl
theorem ft_12_40 : FT 12 40 = 2 := rfl
theorem ft_12_41 : FT 12 41 = 0 := rfl
theorem nf_12_41 : ∀ q, vwCl[12]? = some q → (q.2.1 41).2.2.2 = false := fun q h => by cases h; rfl
theorem ft_12_42 : FT 12 42 = 0 := rfl
theorem nf_12_42 : ∀ q, vwCl[12]? = some q → (q.2.1 42).2.2.2 = false := fun q h => by cases h; rfl
theorem ft_12_43 : FT 12 43 = 0 := rfl
theorem nf_12_43 : ∀ q, vwCl[12]? = some q → (q.2.1 43).2.2.2 = false := fun q h => by cases h; rfl
theorem ft_12_44 : FT 12 44 = 0 := rfl
theorem nf_12_44 : ∀ q, vwCl[12]? = some q → (q.2.1 44).2.2.2 = false := fun q h => by cases h; rfl
theorem ft_12_45 : FT 12 45 = 0 := rfl
theorem nf_12_45 : ∀ q, vwCl[12]? = some q → (q.2.1 45).2.2.2 = false := fun q h => by cases h; rfl
theorem ft_12_46 : FT 12 46 = 2 := rfl
theorem ft_12_47 : FT 12 47 = 0 := rfl
theorem nf_12_47 : ∀ q, vwCl[12]? = some q → (q.2.1 47).2.2.2 = false := fun q h => by cases h; rfl
theorem rf_0_0 : RF 0 0 = some 1 := rfl
theorem rf_0_1 : RF 0 1 = some 24 := rfl
theorem rf_0_2 : RF 0 2 = some 71 := rfl
theorem rf_0_3 : RF 0 3 = some 72 := rfl
theorem rf_0_4 : RF 0 4 = some 83 := rfl
theorem rf_0_5 : RF 0 5 = some 85 := rfl
theorem rf_0_6 : RF 0 6 = some 86 := rfl
theorem rf_0_7 : RF 0 7 = some 88 := rfl
theorem rf_0_8 : RF 0 8 = some 90 := rfl
theorem rf_0_9 : RF 0 9 = some 100 := rfl
theorem rf_1_7 : RF 1 7 = some 2 := rfl
theorem rf_1_8 : RF 1 8 = some 3 := rfl
theorem rf_1_9 : RF 1 9 = some 4 := rfl
theorem rf_1_10 : RF 1 10 = some 5 := rfl
theorem rf_1_11 : RF 1 11 = some 6 := rfl
theorem rf_1_12 : RF 1 12 = some 7 := rfl
theorem rf_1_13 : RF 1 13 = some 8 := rfl
theorem rf_1_14 : RF 1 14 = some 15 := rfl
theorem rf_8_1 : RF 8 1 = some 9 := rfl
theorem rf_8_2 : RF 8 2 = some 10 := rfl
theorem rf_8_3 : RF 8 3 = some 11 := rfl
theorem rf_8_4 : RF 8 4 = some 12 := rfl
theorem rf_8_5 : RF 8 5 = some 13 := rfl
theorem rf_8_6 : RF 8 6 = some 14 := rfl
theorem rf_15_1 : RF 15 1 = some 16 := rfl
theorem rf_15_2 : RF 15 2 = some 17 := rfl
theorem rf_15_3 : RF 15 3 = some 18 := rfl
theorem rf_15_4 : RF 15 4 = some 19 := rfl
theorem rf_15_5 : RF 15 5 = some 20 := rfl
theorem rf_15_6 : RF 15 6 = some 21 := rfl
theorem rf_15_7 : RF 15 7 = some 22 := rfl
theorem rf_15_8 : RF 15 8 = some 23 := rfl
theorem rf_24_0 : RF 24 0 = some 25 := rfl
theorem rf_24_1 : RF 24 1 = some 48 := rfl
theorem rf_25_7 : RF 25 7 = some 26 := rfl
theorem rf_25_8 : RF 25 8 = some 27 := rfl
theorem rf_25_9 : RF 25 9 = some 28 := rfl
theorem rf_25_10 : RF 25 10 = some 29 := rfl
theorem rf_25_11 : RF 25 11 = some 30 := rfl
theorem rf_25_12 : RF 25 12 = some 31 := rfl
theorem rf_25_13 : RF 25 13 = some 32 := rfl
theorem rf_25_14 : RF 25 14 = some 39 := rfl
theorem rf_32_1 : RF 32 1 = some 33 := rfl
theorem rf_32_2 : RF 32 2 = some 34 := rfl
theorem rf_32_3 : RF 32 3 = some 35 := rfl
theorem rf_32_4 : RF 32 4 = some 36 := rfl
theorem rf_32_5 : RF 32 5 = some 37 := rfl
theorem rf_32_6 : RF 32 6 = some 38 := rfl
theorem rf_39_1 : RF 39 1 = some 40 := rfl
theorem rf_39_2 : RF 39 2 = some 41 := rfl
theorem rf_39_3 : RF 39 3 = some 42 := rfl
theorem rf_39_4 : RF 39 4 = some 43 := rfl
theorem rf_39_5 : RF 39 5 = some 44 := rfl
theorem rf_39_6 : RF 39 6 = some 45 := rfl
theorem rf_39_7 : RF 39 7 = some 46 := rfl
theorem rf_39_8 : RF 39 8 = some 47 := rfl
theorem rf_48_7 : RF 48 7 = some 49 := rfl
theorem rf_48_8 : RF 48 8 = some 50 := rfl
theorem rf_48_9 : RF 48 9 = some 51 := rfl
theorem rf_48_10 : RF 48 10 = some 52 := rfl
theorem rf_48_11 : RF 48 11 = some 53 := rfl
theorem rf_48_12 : RF 48 12 = some 54 := rfl
theorem rf_48_13 : RF 48 13 = some 55 := rfl
theorem rf_48_14 : RF 48 14 = some 62 := rfl
theorem rf_55_1 : RF 55 1 = some 56 := rfl
theorem rf_55_2 : RF 55 2 = some 57 := rfl
theorem rf_55_3 : RF 55 3 = some 58 := rfl
theorem rf_55_4 : RF 55 4 = some 59 := rfl
theorem rf_55_5 : RF 55 5 = some 60 := rfl
theorem rf_55_6 : RF 55 6 = some 61 := rfl
theorem rf_62_1 : RF 62 1 = some 63 := rfl
theorem rf_62_2 : RF 62 2 = some 64 := rfl
theorem rf_62_3 : RF 62 3 = some 65 := rfl
theorem rf_62_4 : RF 62 4 = some 66 := rfl
theorem rf_62_5 : RF 62 5 = some 67 := rfl
theorem rf_62_6 : RF 62 6 = some 68 := rfl
theorem rf_62_7 : RF 62 7 = some 69 := rfl
theorem rf_62_8 : RF 62 8 = some 70 := rfl
theorem rf_72_0 : RF 72 0 = some 1 := rfl
theorem rf_72_2 : RF 72 2 = some 73 := rfl
theorem rf_72_3 : RF 72 3 = some 74 := rfl
theorem rf_72_4 : RF 72 4 = some 75 := rfl
theorem rf_72_5 : RF 72 5 = some 76 := rfl
theorem rf_72_6 : RF 72 6 = some 77 := rfl
theorem rf_72_7 : RF 72 7 = some 78 := rfl
theorem rf_72_9 : RF 72 9 = some 79 := rfl
theorem rf_72_10 : RF 72 10 = some 80 := rfl
theorem rf_72_11 : RF 72 11 = some 81 := rfl
theorem rf_72_12 : RF 72 12 = some 82 := rfl
theorem rf_83_0 : RF 83 0 = some 72 := rfl
theorem rf_83_1 : RF 83 1 = some 20 := rfl
theorem rf_83_2 : RF 83 2 = some 84 := rfl
theorem rf_85_0 : RF 85 0 = some 83 := rfl
theorem rf_86_0 : RF 86 0 = some 83 := rfl
theorem rf_86_1 : RF 86 1 = some 87 := rfl
theorem rf_88_0 : RF 88 0 = some 83 := rfl
theorem rf_88_1 : RF 88 1 = some 89 := rfl
theorem rf_90_0 : RF 90 0 = some 72 := rfl
theorem rf_90_1 : RF 90 1 = some 91 := rfl
theorem rf_90_2 : RF 90 2 = some 94 := rfl
theorem rf_90_3 : RF 90 3 = some 95 := rfl
theorem rf_90_4 : RF 90 4 = some 96 := rfl
theorem rf_90_5 : RF 90 5 = some 97 := rfl
theorem rf_90_6 : RF 90 6 = some 98 := rfl
theorem rf_90_13 : RF 90 13 = some 99 := rfl
theorem rf_91_5 : RF 91 5 = some 92 := rfl
theorem rf_91_6 : RF 91 6 = some 93 := rfl
theorem rf_100_0 : RF 100 0 = some 72 := rfl
theorem rf_100_2 : RF 100 2 = some 101 := rfl
theorem rf_102_1 : RF 102 1 = some 103 := rfl
theorem rf_102_2 : RF 102 2 = some 104 := rfl
theorem rf_102_3 : RF 102 3 = some 105 := rfl
theorem rf_102_4 : RF 102 4 = some 106 := rfl
theorem rf_102_5 : RF 102 5 = some 107 := rfl
theorem rf_102_6 : RF 102 6 = some 108 := rfl
theorem rf_102_7 : RF 102 7 = some 109 := rfl
theorem rf_102_10 : RF 102 10 = some 110 := rfl
theorem rf_102_15 : RF 102 15 = some 111 := rfl
theorem rf_102_16 : RF 102 16 = some 112 := rfl
theorem rf_102_20 : RF 102 20 = some 113 := rfl
theorem rf_102_22 : RF 102 22 = some 114 := rfl
theorem rf_102_23 : RF 102 23 = some 115 := rfl
theorem rf_102_24 : RF 102 24 = some 116 := rfl
theorem rf_102_32 : RF 102 32 = some 117 := rfl
theorem rf_102_33 : RF 102 33 = some 118 := rfl
theorem rf_102_34 : RF 102 34 = some 119 := rfl
theorem rf_102_35 : RF 102 35 = some 120 := rfl
theorem rf_102_36 : RF 102 36 = some 121 := rfl
theorem rf_102_37 : RF 102 37 = some 122 := rfl
theorem rf_102_39 : RF 102 39 = some 123 := rfl
theorem rf_102_40 : RF 102 40 = some 124 := rfl
theorem rf_102_46 : RF 102 46 = some 125 := rfl
theorem ni_X0_setLaw : yX0_setLaw.name ≠ "<init>" := by decide
theorem ni_X0_isCleaned : yX0_isCleaned.name ≠ "<init>" := by decide
theorem ni_X0_addCleaning : yX0_addCleaning.name ≠ "<init>" := by decide
theorem ni_X0_copyFrom : yX0_copyFrom.name ≠ "<init>" := by decide
theorem ni_X1_choose : yX1_choose.name ≠ "<init>" := by decide
theorem ni_X1_bestWorth : yX1_bestWorth.name ≠ "<init>" := by decide
theorem ni_X1_keyOf : yX1_keyOf.name ≠ "<init>" := by decide
theorem ni_X1_search : yX1_search.name ≠ "<init>" := by decide
theorem ni_X1_bound : yX1_bound.name ≠ "<init>" := by decide
theorem ni_X1_greatestKey : yX1_greatestKey.name ≠ "<init>" := by decide
theorem ni_X1_allKeys : yX1_allKeys.name ≠ "<init>" := by decide
theorem ni_X2_load : yX2_load.name ≠ "<init>" := by decide
theorem ni_X2_findFoes : yX2_findFoes.name ≠ "<init>" := by decide
theorem ni_X2_pairs : yX2_pairs.name ≠ "<init>" := by decide
theorem ni_X2_pairAt : yX2_pairAt.name ≠ "<init>" := by decide
theorem ni_X2_groupFrom : yX2_groupFrom.name ≠ "<init>" := by decide
theorem ni_X2_busiest : yX2_busiest.name ≠ "<init>" := by decide
theorem ni_X2_greatestWorth : yX2_greatestWorth.name ≠ "<init>" := by decide
theorem ni_X2_allWorth : yX2_allWorth.name ≠ "<init>" := by decide
theorem ni_X3_append : yX3_append.name ≠ "<init>" := by decide
theorem ni_X3_copyFrom : yX3_copyFrom.name ≠ "<init>" := by decide
theorem ni_X4_sum : yX4_sum.name ≠ "<init>" := by decide
theorem ni_X4_placedSum : yX4_placedSum.name ≠ "<init>" := by decide
theorem ni_X4_copyFrom : yX4_copyFrom.name ≠ "<init>" := by decide
theorem ni_X5_leastMiss : yX5_leastMiss.name ≠ "<init>" := by decide
theorem ni_X5_sortByDay : yX5_sortByDay.name ≠ "<init>" := by decide
theorem ni_X5_sweepBack : yX5_sweepBack.name ≠ "<init>" := by decide
theorem ni_X5_stepBack : yX5_stepBack.name ≠ "<init>" := by decide
theorem ni_X5_stepAhead : yX5_stepAhead.name ≠ "<init>" := by decide
theorem ni_X5_addLogs : yX5_addLogs.name ≠ "<init>" := by decide
theorem ni_X5_followBottoms : yX5_followBottoms.name ≠ "<init>" := by decide
theorem ni_X5_leastWithHidden : yX5_leastWithHidden.name ≠ "<init>" := by decide
theorem ni_X5_sweepAhead : yX5_sweepAhead.name ≠ "<init>" := by decide
theorem ni_X5_tryOne : yX5_tryOne.name ≠ "<init>" := by decide
theorem ni_X5_tryTwo : yX5_tryTwo.name ≠ "<init>" := by decide
theorem ni_X5_offer : yX5_offer.name ≠ "<init>" := by decide
theorem ni_X6_load : yX6_load.name ≠ "<init>" := by decide
theorem ni_X6_findLegs : yX6_findLegs.name ≠ "<init>" := by decide
theorem ni_X6_findLaws : yX6_findLaws.name ≠ "<init>" := by decide
theorem ni_X6_findCleanings : yX6_findCleanings.name ≠ "<init>" := by decide
theorem ni_X6_readLogs : yX6_readLogs.name ≠ "<init>" := by decide
theorem ni_X6_readFuel : yX6_readFuel.name ≠ "<init>" := by decide
theorem ni_X6_keepReading : yX6_keepReading.name ≠ "<init>" := by decide
theorem ni_X6_counting : yX6_counting.name ≠ "<init>" := by decide
theorem ni_X6_portion : yX6_portion.name ≠ "<init>" := by decide
theorem ni_X6_fuel : yX6_fuel.name ≠ "<init>" := by decide
theorem ni_X6_skinFuel : yX6_skinFuel.name ≠ "<init>" := by decide
theorem ni_X6_shareOf : yX6_shareOf.name ≠ "<init>" := by decide
theorem ni_X6_bind : yX6_bind.name ≠ "<init>" := by decide
theorem ni_X6_narrow : yX6_narrow.name ≠ "<init>" := by decide
theorem ni_X6_isBound : yX6_isBound.name ≠ "<init>" := by decide
theorem ni_X6_endOf : yX6_endOf.name ≠ "<init>" := by decide
theorem ni_X6_widthOf : yX6_widthOf.name ≠ "<init>" := by decide
theorem ni_X6_makerOf : yX6_makerOf.name ≠ "<init>" := by decide
theorem ni_X7_append : yX7_append.name ≠ "<init>" := by decide
theorem ni_X7_drop : yX7_drop.name ≠ "<init>" := by decide
theorem ni_X7_cheapest : yX7_cheapest.name ≠ "<init>" := by decide
theorem ni_X7_worstCost : yX7_worstCost.name ≠ "<init>" := by decide
theorem ni_X8_writeAll : yX8_writeAll.name ≠ "<init>" := by decide
theorem ni_X8_write : yX8_write.name ≠ "<init>" := by decide
theorem ni_X8_bound : yX8_bound.name ≠ "<init>" := by decide
theorem ni_X8_writeGroups : yX8_writeGroups.name ≠ "<init>" := by decide
theorem ni_X8_writeGroup : yX8_writeGroup.name ≠ "<init>" := by decide
theorem ni_X8_putNumber : yX8_putNumber.name ≠ "<init>" := by decide
theorem ni_X8_put : yX8_put.name ≠ "<init>" := by decide
theorem ni_X9_begin : yX9_begin.name ≠ "<init>" := by decide
theorem ni_X9_addMiss : yX9_addMiss.name ≠ "<init>" := by decide
theorem ni_X9_insertByPlace : yX9_insertByPlace.name ≠ "<init>" := by decide
theorem ni_X9_insertAt : yX9_insertAt.name ≠ "<init>" := by decide
theorem ni_X9_spread : yX9_spread.name ≠ "<init>" := by decide
theorem ni_X9_splitAtBottom : yX9_splitAtBottom.name ≠ "<init>" := by decide
theorem ni_X9_cutTo : yX9_cutTo.name ≠ "<init>" := by decide
theorem ni_X9_dropFirst : yX9_dropFirst.name ≠ "<init>" := by decide
theorem ni_X9_bottom : yX9_bottom.name ≠ "<init>" := by decide
theorem ni_X9_bottomCost : yX9_bottomCost.name ≠ "<init>" := by decide
theorem ni_X10_hasRoom : yX10_hasRoom.name ≠ "<init>" := by decide
theorem ni_X10_append : yX10_append.name ≠ "<init>" := by decide
theorem ni_X10_holdsProof : yX10_holdsProof.name ≠ "<init>" := by decide
theorem ni_X10_step : yX10_step.name ≠ "<init>" := by decide
theorem ni_X10_readNumber : yX10_readNumber.name ≠ "<init>" := by decide
theorem ni_X10_isDigit : yX10_isDigit.name ≠ "<init>" := by decide
theorem ni_X10_fail : yX10_fail.name ≠ "<init>" := by decide
theorem ni_X10_expect : yX10_expect.name ≠ "<init>" := by decide
theorem ni_X10_isLogOf : yX10_isLogOf.name ≠ "<init>" := by decide
theorem ni_X10_readProof : yX10_readProof.name ≠ "<init>" := by decide
theorem ni_X10_readGroups : yX10_readGroups.name ≠ "<init>" := by decide
theorem ni_X10_readGroup : yX10_readGroup.name ≠ "<init>" := by decide
theorem ni_X11_table : yX11_table.name ≠ "<init>" := by decide
theorem ni_X11_ship : yX11_ship.name ≠ "<init>" := by decide
theorem ni_X11_leg : yX11_leg.name ≠ "<init>" := by decide
theorem ni_X11_cleaned : yX11_cleaned.name ≠ "<init>" := by decide
theorem ni_X11_terms : yX11_terms.name ≠ "<init>" := by decide
theorem ni_X11_log : yX11_log.name ≠ "<init>" := by decide
theorem ni_X11_look : yX11_look.name ≠ "<init>" := by decide
theorem ni_X11_of : yX11_of.name ≠ "<init>" := by decide
theorem ni_X11_leave : yX11_leave.name ≠ "<init>" := by decide
theorem ni_X11_law : yX11_law.name ≠ "<init>" := by decide
theorem ni_X11_share : yX11_share.name ≠ "<init>" := by decide
theorem ni_X11_span : yX11_span.name ≠ "<init>" := by decide
theorem ni_X11_why : yX11_why.name ≠ "<init>" := by decide
theorem ni_X11_lost : yX11_lost.name ≠ "<init>" := by decide
theorem ni_X11_widest : yX11_widest.name ≠ "<init>" := by decide
theorem ni_X11_quarrels : yX11_quarrels.name ≠ "<init>" := by decide
theorem ni_X11_quarrel : yX11_quarrel.name ≠ "<init>" := by decide
theorem ni_X11_right : yX11_right.name ≠ "<init>" := by decide
theorem ni_X11_isRight : yX11_isRight.name ≠ "<init>" := by decide
theorem ni_X11_prove : yX11_prove.name ≠ "<init>" := by decide
theorem ni_X11_proof : yX11_proof.name ≠ "<init>" := by decide
theorem ni_X11_feed : yX11_feed.name ≠ "<init>" := by decide
theorem ni_X11_end : yX11_end.name ≠ "<init>" := by decide
theorem ni_X11_check : yX11_check.name ≠ "<init>" := by decide
theorem ni_X11_fault : yX11_fault.name ≠ "<init>" := by decide
theorem ni_X11_miss : yX11_miss.name ≠ "<init>" := by decide
theorem ni_X11_curve : yX11_curve.name ≠ "<init>" := by decide
theorem ni_X11_hidden : yX11_hidden.name ≠ "<init>" := by decide
theorem ni_X11_hid : yX11_hid.name ≠ "<init>" := by decide
theorem ni_X11_call : yX11_call.name ≠ "<init>" := by decide
theorem ni_X11_clear : yX11_clear.name ≠ "<init>" := by decide
theorem ni_X11_plan : yX11_plan.name ≠ "<init>" := by decide
theorem ni_X11_judge : yX11_judge.name ≠ "<init>" := by decide
theorem ni_X11_seal : yX11_seal.name ≠ "<init>" := by decide
theorem ni_X11_alter : yX11_alter.name ≠ "<init>" := by decide
theorem ni_X11_found : yX11_found.name ≠ "<init>" := by decide
theorem ni_X11_image : yX11_image.name ≠ "<init>" := by decide
theorem ni_X11_back : yX11_back.name ≠ "<init>" := by decide
theorem ni_X11_count : yX11_count.name ≠ "<init>" := by decide
theorem ni_X11_status : yX11_status.name ≠ "<init>" := by decide
theorem ni_X11_refuse : yX11_refuse.name ≠ "<init>" := by decide
theorem ni_X11_accept : yX11_accept.name ≠ "<init>" := by decide
theorem ni_X11_within : yX11_within.name ≠ "<init>" := by decide
theorem ni_X11_isDay : yX11_isDay.name ≠ "<init>" := by decide
theorem ni_X11_isStretch : yX11_isStretch.name ≠ "<init>" := by decide
theorem ni_X11_isShip : yX11_isShip.name ≠ "<init>" := by decide
theorem ni_X11_isLog : yX11_isLog.name ≠ "<init>" := by decide
theorem ni_X11_isReadable : yX11_isReadable.name ≠ "<init>" := by decide
theorem ni_X11_bindAsKnown : yX11_bindAsKnown.name ≠ "<init>" := by decide
theorem ni_X11_addLog : yX11_addLog.name ≠ "<init>" := by decide
theorem ni_X12_in : yX12_in.name ≠ "<init>" := by decide
theorem ni_X12_isDay : yX12_isDay.name ≠ "<init>" := by decide
theorem ni_X12_ends : yX12_ends.name ≠ "<init>" := by decide
theorem ni_X12_many : yX12_many.name ≠ "<init>" := by decide
theorem ni_X12_isShip : yX12_isShip.name ≠ "<init>" := by decide
theorem ni_X12_isLog : yX12_isLog.name ≠ "<init>" := by decide
theorem ni_X12_legAt : yX12_legAt.name ≠ "<init>" := by decide
theorem ni_X12_clean : yX12_clean.name ≠ "<init>" := by decide
theorem ni_X12_logAt : yX12_logAt.name ≠ "<init>" := by decide
theorem ni_X12_image : yX12_image.name ≠ "<init>" := by decide
theorem ni_X12_back : yX12_back.name ≠ "<init>" := by decide
theorem ni_X12_table : yX12_table.name ≠ "<init>" := by decide
theorem ni_X12_ship : yX12_ship.name ≠ "<init>" := by decide
theorem ni_X12_leg : yX12_leg.name ≠ "<init>" := by decide
theorem ni_X12_cleaned : yX12_cleaned.name ≠ "<init>" := by decide
theorem ni_X12_terms : yX12_terms.name ≠ "<init>" := by decide
theorem ni_X12_legOn : yX12_legOn.name ≠ "<init>" := by decide
theorem ni_X12_onDay : yX12_onDay.name ≠ "<init>" := by decide
theorem ni_X12_leftOn : yX12_leftOn.name ≠ "<init>" := by decide
theorem ni_X12_speedOn : yX12_speedOn.name ≠ "<init>" := by decide
theorem ni_X12_byTable : yX12_byTable.name ≠ "<init>" := by decide
theorem ni_X12_law : yX12_law.name ≠ "<init>" := by decide
theorem ni_X12_portion : yX12_portion.name ≠ "<init>" := by decide
theorem ni_X12_fuel : yX12_fuel.name ≠ "<init>" := by decide
theorem ni_X12_share : yX12_share.name ≠ "<init>" := by decide
theorem ni_X12_skin : yX12_skin.name ≠ "<init>" := by decide
theorem ni_X12_adds : yX12_adds.name ≠ "<init>" := by decide
theorem ni_X12_log : yX12_log.name ≠ "<init>" := by decide
theorem ni_X12_look : yX12_look.name ≠ "<init>" := by decide
theorem ni_X12_readAs : yX12_readAs.name ≠ "<init>" := by decide
theorem ni_X12_of : yX12_of.name ≠ "<init>" := by decide
theorem ni_X12_leave : yX12_leave.name ≠ "<init>" := by decide
theorem ni_X12_counting : yX12_counting.name ≠ "<init>" := by decide
theorem ni_X12_alone : yX12_alone.name ≠ "<init>" := by decide
theorem ni_X12_meets : yX12_meets.name ≠ "<init>" := by decide
theorem ni_X12_spans : yX12_spans.name ≠ "<init>" := by decide
theorem ni_X12_isAsked : yX12_isAsked.name ≠ "<init>" := by decide
theorem ni_X12_endOf : yX12_endOf.name ≠ "<init>" := by decide
theorem ni_X12_span : yX12_span.name ≠ "<init>" := by decide
theorem ni_X12_why : yX12_why.name ≠ "<init>" := by decide
theorem ni_X12_lost : yX12_lost.name ≠ "<init>" := by decide
theorem ni_X12_widest : yX12_widest.name ≠ "<init>" := by decide
theorem ni_X12_quarrel0 : yX12_quarrel0.name ≠ "<init>" := by decide
theorem ni_X12_quarrel : yX12_quarrel.name ≠ "<init>" := by decide
theorem ni_X12_quarrels : yX12_quarrels.name ≠ "<init>" := by decide
theorem ni_X12_opening : yX12_opening.name ≠ "<init>" := by decide
theorem ni_X12_ones : yX12_ones.name ≠ "<init>" := by decide
theorem ni_X12_worth : yX12_worth.name ≠ "<init>" := by decide
theorem ni_X12_chooses : yX12_chooses.name ≠ "<init>" := by decide
theorem ni_X12_best : yX12_best.name ≠ "<init>" := by decide
theorem ni_X12_right : yX12_right.name ≠ "<init>" := by decide
theorem ni_X12_isRight : yX12_isRight.name ≠ "<init>" := by decide
theorem ni_X12_puts : yX12_puts.name ≠ "<init>" := by decide
theorem ni_X12_putsLog : yX12_putsLog.name ≠ "<init>" := by decide
theorem ni_X12_joins : yX12_joins.name ≠ "<init>" := by decide
theorem ni_X12_bound : yX12_bound.name ≠ "<init>" := by decide
theorem ni_X12_sizeOf : yX12_sizeOf.name ≠ "<init>" := by decide
theorem ni_X12_proves : yX12_proves.name ≠ "<init>" := by decide
theorem ni_X12_putsGroup : yX12_putsGroup.name ≠ "<init>" := by decide
theorem ni_X12_prove : yX12_prove.name ≠ "<init>" := by decide
theorem ni_X12_proof : yX12_proof.name ≠ "<init>" := by decide
theorem ni_X12_feed : yX12_feed.name ≠ "<init>" := by decide
theorem ni_X12_end : yX12_end.name ≠ "<init>" := by decide
theorem ni_X12_isDigit : yX12_isDigit.name ≠ "<init>" := by decide
theorem ni_X12_next : yX12_next.name ≠ "<init>" := by decide
theorem ni_X12_good : yX12_good.name ≠ "<init>" := by decide
theorem ni_X12_faults : yX12_faults.name ≠ "<init>" := by decide
theorem ni_X12_takes : yX12_takes.name ≠ "<init>" := by decide
theorem ni_X12_need : yX12_need.name ≠ "<init>" := by decide
theorem ni_X12_aLog : yX12_aLog.name ≠ "<init>" := by decide
theorem ni_X12_proofOf : yX12_proofOf.name ≠ "<init>" := by decide
theorem ni_X12_leafOf : yX12_leafOf.name ≠ "<init>" := by decide
theorem ni_X12_check : yX12_check.name ≠ "<init>" := by decide
theorem ni_X12_fault : yX12_fault.name ≠ "<init>" := by decide
theorem ni_X12_lays : yX12_lays.name ≠ "<init>" := by decide
theorem ni_X12_slides : yX12_slides.name ≠ "<init>" := by decide
theorem ni_X12_behind0 : yX12_behind0.name ≠ "<init>" := by decide
theorem ni_X12_adds2 : yX12_adds2.name ≠ "<init>" := by decide
theorem ni_X12_leastOf : yX12_leastOf.name ≠ "<init>" := by decide
theorem ni_X12_miss : yX12_miss.name ≠ "<init>" := by decide
theorem ni_X12_curve : yX12_curve.name ≠ "<init>" := by decide
theorem ni_X12_runs : yX12_runs.name ≠ "<init>" := by decide
theorem ni_X12_offers : yX12_offers.name ≠ "<init>" := by decide
theorem ni_X12_hidden : yX12_hidden.name ≠ "<init>" := by decide
theorem ni_X12_hid : yX12_hid.name ≠ "<init>" := by decide
theorem ni_X12_call : yX12_call.name ≠ "<init>" := by decide
theorem ni_X12_clear : yX12_clear.name ≠ "<init>" := by decide
theorem ni_X12_isCall : yX12_isCall.name ≠ "<init>" := by decide
theorem ni_X12_costOf : yX12_costOf.name ≠ "<init>" := by decide
theorem ni_X12_plan : yX12_plan.name ≠ "<init>" := by decide
theorem ni_X12_judge : yX12_judge.name ≠ "<init>" := by decide
theorem ni_X12_sumOf : yX12_sumOf.name ≠ "<init>" := by decide
theorem ni_X12_weightOf : yX12_weightOf.name ≠ "<init>" := by decide
theorem ni_X12_seal : yX12_seal.name ≠ "<init>" := by decide
theorem ni_X12_alter : yX12_alter.name ≠ "<init>" := by decide
theorem ni_X12_found : yX12_found.name ≠ "<init>" := by decide
theorem ni_X12_count : yX12_count.name ≠ "<init>" := by decide
theorem ni_X12_status : yX12_status.name ≠ "<init>" := by decide
theorem ni_J6_bitCount_0f7a4 : yJ6_bitCount_0f7a4.name ≠ "<init>" := by decide
theorem ni_J9_floorDiv_7cf53 : yJ9_floorDiv_7cf53.name ≠ "<init>" := by decide
theorem ni_J9_max_7cf53 : yJ9_max_7cf53.name ≠ "<init>" := by decide
theorem ni_J9_max_f86c9 : yJ9_max_f86c9.name ≠ "<init>" := by decide
theorem ni_J9_min_7cf53 : yJ9_min_7cf53.name ≠ "<init>" := by decide
theorem ni_L_law : yL_law.name ≠ "<init>" := by decide
