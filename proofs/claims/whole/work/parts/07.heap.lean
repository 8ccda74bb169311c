/-! ===== the world's cells as a list of the kit's ===== -/
theorem ws_at (g : Gp) (Z : Zm) {k : Nat} (h : k < Z.1) : (wsOf g Z)[k]? = some (g.1 + k, ent g Z.2.1 Z.2.2 k) := by
  unfold wsOf
  rw [List.getElem?_map, List.getElem?_range h]
  rfl
theorem ws_D (g : Gp) (Z : Zm) : va_D (Af g) (wsOf g Z) := by
  refine ⟨fun i j p q hi hj e => ?_, fun k q hk => ?_⟩
  · unfold wsOf at hi hj
    rw [List.getElem?_map] at hi hj
    have hi' : i < Z.1 := by
      rcases Nat.lt_or_ge i Z.1 with h | h
      · exact h
      · rw [List.getElem?_eq_none (by simpa using h)] at hi; cases hi
    have hj' : j < Z.1 := by
      rcases Nat.lt_or_ge j Z.1 with h | h
      · exact h
      · rw [List.getElem?_eq_none (by simpa using h)] at hj; cases hj
    rw [List.getElem?_range hi'] at hi
    rw [List.getElem?_range hj'] at hj
    cases hi; cases hj
    have e : g.1 + i = g.1 + j := e
    omega
  · unfold wsOf at hk
    obtain ⟨i, -, hi⟩ := List.mem_map.mp (List.mem_of_getElem? hk)
    rw [← hi]
    exact Nat.le_add_right _ _
theorem ws_set (g : Gp) {N : Nat} {ρ ρ' : Rm} {M M' : Mm} {k : Nat} {x : va_E} (he : ent g ρ' M' k = x) (ho : ∀ j, j ≠ k → ent g ρ' M' j = ent g ρ M j) : (wsOf g (N, ρ, M)).set k (g.1 + k, x) = wsOf g (N, ρ', M') := by
  apply List.ext_getElem?
  intro j
  unfold wsOf
  rw [List.getElem?_set]
  simp only [List.length_map, List.length_range, List.getElem?_map]
  by_cases hjk : k = j
  · subst hjk
    by_cases hk : k < N
    · rw [if_pos rfl, if_pos hk, List.getElem?_range hk]
      show some (g.1 + k, x) = some (g.1 + k, ent g ρ' M' k)
      rw [he]
    · rw [if_pos rfl, if_neg hk, List.getElem?_eq_none (by simpa using Nat.le_of_not_lt hk)]
      rfl
  · rw [if_neg hjk]
    rcases Nat.lt_or_ge j N with h | h
    · rw [List.getElem?_range h]
      show some (g.1 + j, ent g ρ M j) = some (g.1 + j, ent g ρ' M' j)
      rw [ho j (fun q => hjk q.symm)]
    · rw [List.getElem?_eq_none (by simpa using h)]
      rfl
theorem kd_small : ∀ q ∈ KDl, ∀ t n, q = .inr (t, n) → n ≤ 200000 := by
  have h : (KDl.all fun q => match q with | .inl _ => true | .inr (_, n) => decide (n ≤ 200000)) = true := by decide +kernel
  intro q hq t n e
  have := List.all_eq_true.mp h q hq
  subst e
  simpa using this
theorem kd_n {c t n : Nat} (h : KD c = .inr (t, n)) : n ≤ 200000 := by
  unfold KD at h
  rw [List.getD_eq_getElem?_getD] at h
  cases hc : KDl[c]? with
  | none => rw [hc] at h; cases h; omega
  | some q =>
    rw [hc] at h
    exact kd_small q (List.mem_of_getElem? hc) t n h
theorem ent_i {g : Gp} {ρ : Rm} {M : Mm} {c t n : Nat} (h : KD c = .inr (t, n)) (ht : t ≠ 3) : ent g ρ M c = .inl (g.2.2.2.2 t, n, .inl (fun j => Int32.ofInt (M c (j : Int)))) := by
  unfold ent
  rw [h]
  split
  · rename_i q; cases q
  · rename_i q; cases q; exact absurd rfl ht
  · rename_i q; cases q; rfl
theorem ent_q {g : Gp} {ρ : Rm} {M : Mm} {c n : Nat} (h : KD c = .inr (3, n)) : ent g ρ M c = .inl (g.2.2.2.2 3, n, .inr (.inr (.inr (.inr (fun j => (ρ c j).map (adr g)))))) := by
  unfold ent
  rw [h]
  rfl
theorem ent_o {g : Gp} {ρ : Rm} {M : Mm} {c ci : Nat} (h : KD c = .inl ci) : ent g ρ M c = .inr (ci, (List.range (NF ci)).map (fun j => fval g (FT ci j) (M c (j : Int)) (ρ c j))) := by
  unfold ent
  rw [h]
theorem ent_up {g : Gp} {ρ : Rm} {M : Mm} {c j : Nat} {i v : Int} (h : j ≠ c) : ent g ρ (up M c i v) j = ent g ρ M j := by
  unfold ent up
  simp only [if_neg h]
theorem ent_upR {g : Gp} {ρ : Rm} {M : Mm} {c k j : Nat} {v : Option Nat} (h : j ≠ c) : ent g (upR ρ c k v) M j = ent g ρ M j := by
  unfold ent upR
  have e : ∀ x : Nat, (j = c ∧ x = k) = False := fun x => by simp [h]
  simp only [e, if_false]
theorem adr_lt {g : Gp} {c : Nat} (h : c < 1000) : adr g c = g.1 + c := by
  unfold adr
  rw [if_neg (by omega)]
theorem ofInt_upA (f : Int → Int) {i v : Int} (h : 0 ≤ i) : (fun j : Nat => Int32.ofInt (upA f i v (j : Int))) = upd (fun j : Nat => Int32.ofInt (f (j : Int))) i.toNat (Int32.ofInt v) := by
  funext j
  unfold upA upd
  by_cases q : j = i.toNat
  · subst q
    rw [if_pos (by omega), if_pos rfl]
  · rw [if_neg (by omega), if_neg q]
section Rows2
variable {Γ : Cx} {cc : ByteArray} {own : String} {nL h kC kS : Nat} {K : State → Prop} {kc ks pc : Nat} {ls : List (Nat × AV)} {st : List AV} {N : Nat} {ρ : Rm} {M : Mm}
theorem a_iald (hΓ : Ok Γ cc own nL h kC kS) {c n : Nat} {i : Int} (hd : decode cc pc = .ok (.iaload, 1)) (hKD : KD c = .inr (0, n)) (hc : c < N ∧ c < 1000) (hi : 0 ≤ i ∧ i < (n : Int)) (k : Wa Γ nL K kc ks (pc + 1) ls (aI (M c i) :: st) (N, ρ, M)) : Wa Γ nL K kc ks pc ls (aI i :: aR c :: st) (N, ρ, M) := by
  obtain ⟨p, l, e, R, s, m, args, below, meth, cd, g⟩ := Γ
  obtain ⟨hx, hb, hml, hown, hts, hnw, hK, -⟩ := hΓ
  intro H locs lsA hW hl
  have e1 := ws_at g (N, ρ, M) hc.1
  rw [ent_i hKD (by decide)] at e1
  obtain ⟨e2, e3⟩ := clamp32 hi (kd_n hKD)
  show W p l e R s m args below meth cd H locs kc ks K (F0 m pc lsA (.int (Int32.ofInt i) :: .ref (adr g c) :: st.map (cv g)))
  rw [adr_lt hc.2]
  refine va_iald hx hb hK hW.2.1 c 0 e1 rfl e3 hd ?_
  rw [e2, show ((i.toNat : Nat) : Int) = i by omega]
  exact k H locs lsA hW hl
theorem a_zald (hΓ : Ok Γ cc own nL h kC kS) {c n : Nat} {i : Int} (hd : decode cc pc = .ok (.baload, 1)) (hKD : KD c = .inr (1, n)) (hc : c < N ∧ c < 1000) (hi : 0 ≤ i ∧ i < (n : Int)) (k : Wa Γ nL K kc ks (pc + 1) ls (aI (M c i) :: st) (N, ρ, M)) : Wa Γ nL K kc ks pc ls (aI i :: aR c :: st) (N, ρ, M) := by
  obtain ⟨p, l, e, R, s, m, args, below, meth, cd, g⟩ := Γ
  obtain ⟨hx, hb, hml, hown, hts, hnw, hK, -⟩ := hΓ
  intro H locs lsA hW hl
  have e1 := ws_at g (N, ρ, M) hc.1
  rw [ent_i hKD (by decide)] at e1
  obtain ⟨e2, e3⟩ := clamp32 hi (kd_n hKD)
  show W p l e R s m args below meth cd H locs kc ks K (F0 m pc lsA (.int (Int32.ofInt i) :: .ref (adr g c) :: st.map (cv g)))
  rw [adr_lt hc.2]
  refine va_zald hx hb hK hW.2.1 c 1 e1 rfl e3 hd ?_
  rw [e2, show ((i.toNat : Nat) : Int) = i by omega]
  exact k H locs lsA hW hl
theorem a_bald (hΓ : Ok Γ cc own nL h kC kS) {c n : Nat} {i : Int} (hd : decode cc pc = .ok (.baload, 1)) (hKD : KD c = .inr (2, n)) (hc : c < N ∧ c < 1000) (hi : 0 ≤ i ∧ i < (n : Int)) (k : Wa Γ nL K kc ks (pc + 1) ls (aI (M c i) :: st) (N, ρ, M)) : Wa Γ nL K kc ks pc ls (aI i :: aR c :: st) (N, ρ, M) := by
  obtain ⟨p, l, e, R, s, m, args, below, meth, cd, g⟩ := Γ
  obtain ⟨hx, hb, hml, hown, hts, hnw, hK, -⟩ := hΓ
  intro H locs lsA hW hl
  have e1 := ws_at g (N, ρ, M) hc.1
  rw [ent_i hKD (by decide)] at e1
  obtain ⟨e2, e3⟩ := clamp32 hi (kd_n hKD)
  show W p l e R s m args below meth cd H locs kc ks K (F0 m pc lsA (.int (Int32.ofInt i) :: .ref (adr g c) :: st.map (cv g)))
  rw [adr_lt hc.2]
  refine va_bald hx hb hK hW.2.1 c 2 e1 rfl e3 hd ?_
  rw [e2, show ((i.toNat : Nat) : Int) = i by omega]
  exact k H locs lsA hW hl
theorem a_iast (hΓ : Ok Γ cc own nL h kC kS) {c n : Nat} {i v : Int} (hd : decode cc pc = .ok (.iastore, 1)) (hKD : KD c = .inr (0, n)) (hc : c < N ∧ c < 1000) (hi : 0 ≤ i ∧ i < (n : Int)) (k : Wa Γ nL K kc ks (pc + 1) ls st (N, ρ, up M c i v)) : Wa Γ nL K kc ks pc ls (aI v :: aI i :: aR c :: st) (N, ρ, M) := by
  obtain ⟨p, l, e, R, s, m, args, below, meth, cd, g⟩ := Γ
  obtain ⟨hx, hb, hml, hown, hts, hnw, hK, hfr, hlo, hce, hsl, hlk, hgs⟩ := hΓ
  intro H locs lsA hW hl
  have e1 := ws_at g (N, ρ, M) hc.1
  rw [ent_i hKD (by decide)] at e1
  obtain ⟨e2, e3⟩ := clamp32 hi (kd_n hKD)
  show W p l e R s m args below meth cd H locs kc ks K (F0 m pc lsA (.int (Int32.ofInt v) :: .int (Int32.ofInt i) :: .ref (adr g c) :: st.map (cv g)))
  rw [adr_lt hc.2]
  have hP := hW.2.1
  have hD := ws_D g (N, ρ, M)
  refine W.iast hx hb (hP c _ e1) ((hK.2 0 _ rfl).1 n (fun j => .int (Int32.ofInt (M c (j : Int))))) (fun q => by cases q) (by show ¬ (_ < 0 ∨ (arrV _ _ _).slots.size ≤ _); rw [arrV_size]; exact e3) rfl rfl hd fun H1 f1 z oq => ?_
  have hP1 := hP.set hD e1 (e := .inl (g.2.2.2.2 0, n, .inl (upd (fun j : Nat => Int32.ofInt (M c (j : Int))) i.toNat (Int32.ofInt v)))) (H1 := H1) (by
    show H1[g.1 + c]? = some (vp_cell _ _)
    rw [f1, vp_cell_i, vp_cell_i, arrV_store, e2]
    congr 2
    funext q
    by_cases hq : q = i.toNat
    · subst hq
      simp [updV, upd]
    · simp [updV, upd, hq]) oq
  rw [← ofInt_upA (M c) hi.1, ws_set g (ρ' := ρ) (M' := up M c i v) (by rw [ent_i hKD (by decide)]; simp [up]) (fun j hj => ent_up hj)] at hP1
  exact k H1 _ lsA ⟨fun q => z.trans (hW.1 q), hP1, hW.2.2.put z oq (hD.2 c _ e1)⟩ hl
theorem a_zast (hΓ : Ok Γ cc own nL h kC kS) (hN : N = NC) {c n : Nat} {i v : Int} (hv : v = 0 ∨ v = 1) (hd : decode cc pc = .ok (.bastore, 1)) (hKD : KD c = .inr (1, n)) (hc : c < N ∧ c < 1000) (hi : 0 ≤ i ∧ i < (n : Int)) (k : Wa Γ nL K kc ks (pc + 1) ls st (N, ρ, up M c i v)) : Wa Γ nL K kc ks pc ls (aI v :: aI i :: aR c :: st) (N, ρ, M) := by
  obtain ⟨p, l, e, R, s, m, args, below, meth, cd, g⟩ := Γ
  obtain ⟨hx, hb, hml, hown, hts, hnw, hK, hfr, hlo, hce, hsl, hlk, hgs⟩ := hΓ
  intro H locs lsA hW hl
  have e1 := ws_at g (N, ρ, M) hc.1
  rw [ent_i hKD (by decide)] at e1
  obtain ⟨e2, e3⟩ := clamp32 hi (kd_n hKD)
  show W p l e R s m args below meth cd H locs kc ks K (F0 m pc lsA (.int (Int32.ofInt v) :: .int (Int32.ofInt i) :: .ref (adr g c) :: st.map (cv g)))
  rw [adr_lt hc.2]
  refine va_zast hx hb hK hW.2.1 (ws_D g _) hW.2.2 c 1 e1 rfl e3 hd fun H1 locs1 hP1 hD1 hS1 => ?_
  rw [show vp_nar .boolean (Int32.ofInt v) = Int32.ofInt v from by rcases hv with rfl | rfl <;> decide, e2, ← ofInt_upA (M c) hi.1, ws_set g (ρ' := ρ) (M' := up M c i v) (by rw [ent_i hKD (by decide)]; simp [up]) (fun j hj => ent_up hj)] at hP1
  exact k H1 locs1 lsA ⟨fun q => absurd (hN ▸ q : NC < NC) (Nat.lt_irrefl _), hP1, hS1⟩ hl
theorem a_bast (hΓ : Ok Γ cc own nL h kC kS) (hN : N = NC) {c n : Nat} {i v : Int} (hd : decode cc pc = .ok (.bastore, 1)) (hKD : KD c = .inr (2, n)) (hc : c < N ∧ c < 1000) (hi : 0 ≤ i ∧ i < (n : Int)) (k : Wa Γ nL K kc ks (pc + 1) ls st (N, ρ, up M c i (i2bI v))) : Wa Γ nL K kc ks pc ls (aI v :: aI i :: aR c :: st) (N, ρ, M) := by
  obtain ⟨p, l, e, R, s, m, args, below, meth, cd, g⟩ := Γ
  obtain ⟨hx, hb, hml, hown, hts, hnw, hK, hfr, hlo, hce, hsl, hlk, hgs⟩ := hΓ
  intro H locs lsA hW hl
  have e1 := ws_at g (N, ρ, M) hc.1
  rw [ent_i hKD (by decide)] at e1
  obtain ⟨e2, e3⟩ := clamp32 hi (kd_n hKD)
  show W p l e R s m args below meth cd H locs kc ks K (F0 m pc lsA (.int (Int32.ofInt v) :: .int (Int32.ofInt i) :: .ref (adr g c) :: st.map (cv g)))
  rw [adr_lt hc.2]
  refine va_bast hx hb hK hW.2.1 (ws_D g _) hW.2.2 c 2 e1 rfl e3 hd fun H1 locs1 hP1 hD1 hS1 => ?_
  rw [show vp_nar .byte (Int32.ofInt v) = Int32.ofInt (i2bI v) from by unfold i2bI; rw [Int32.ofInt_toInt]; rfl, e2, ← ofInt_upA (M c) hi.1, ws_set g (ρ' := ρ) (M' := up M c i (i2bI v)) (by rw [ent_i hKD (by decide)]; simp [up]) (fun j hj => ent_up hj)] at hP1
  exact k H1 locs1 lsA ⟨fun q => absurd (hN ▸ q : NC < NC) (Nat.lt_irrefl _), hP1, hS1⟩ hl
/-- the link of a field: own class, pool entry -> class of the object, place of the field -/
def FLok (own : String) (idx ci k : Nat) : Prop := match vwCl[ci]? with
  | some (C, T, n) => k < n ∧ (T k).1 = C ∧ ((Cond.fieldLink own idx C (T k).2.1 (T k).2.2.1 ∈ GW) ∨ ∃ host, Cond.fieldLinkNest own idx C (T k).2.1 (T k).2.2.1 host ∈ NW)
  | none => False
def tyOk (t : Nat) (ty : FieldType) : Prop := match t with
  | 0 => ty = .int
  | 1 => ty = .long
  | 2 => refKind ty = true
  | _ => ty = .boolean
/-- what the tables say of a class: its fields' words, their types, names -/
def CLok (ci : Nat) : Prop := match vwCl[ci]? with
  | some (C, T, n) => (∀ w ∈ u_ws C T n, w ∈ GW) ∧ NF ci = n ∧ (∀ a, a < n → ∀ b, b < n → a ≠ b → (T a).2.1 ≠ (T b).2.1) ∧ ∃ ty : Nat → FieldType, (∀ k, k < n → parseFieldDescriptor (T k).2.2.1 = some (ty k)) ∧ ∀ k, k < n → tyOk (FT ci k) (ty k)
  | none => False
theorem fs_get {g : Gp} {ρ : Rm} {M : Mm} {c ci k : Nat} (h : k < NF ci) : ((List.range (NF ci)).map (fun j => fval g (FT ci j) (M c (j : Int)) (ρ c j)))[k]? = some (fval g (FT ci k) (M c (k : Int)) (ρ c k)) := by
  rw [List.getElem?_map, List.getElem?_range h]
  rfl
theorem a_getv (hΓ : Ok Γ cc own nL h kC kS) {c ci k idx : Nat} {v : AV} (hf : FLok own idx ci k) (hC : CLok ci) (hKD : KD c = .inl ci) (hc : c < N ∧ c < 1000) (hd : decode cc pc = .ok (.getfield idx, 3)) (hv : ∀ g : Gp, fval g (FT ci k) (M c (k : Int)) (ρ c k) = cv g v) (kk : Wa Γ nL K kc ks (pc + 3) ls (v :: st) (N, ρ, M)) : Wa Γ nL K kc ks pc ls (aR c :: st) (N, ρ, M) := by
  obtain ⟨p, l, e, R, s, m, args, below, meth, cd, g⟩ := Γ
  obtain ⟨hx, hb, hml, hown, hts, hnw, hK, hfr, hlo, hce, hsl, hlk, hgs⟩ := hΓ
  intro H locs lsA hW hl
  have e1 := ws_at g (N, ρ, M) hc.1
  rw [ent_o hKD] at e1
  unfold FLok at hf
  unfold CLok at hC
  cases hcl : vwCl[ci]? with
  | none => rw [hcl] at hf; exact hf.elim
  | some q =>
    obtain ⟨C, T, n⟩ := q
    rw [hcl] at hf hC
    obtain ⟨hk, hC1, hlink⟩ := hf
    obtain ⟨hin, hNF, -⟩ := hC
    have e2 := fs_get (g := g) (ρ := ρ) (M := M) (c := c) (ci := ci) (k := k) (by rw [hNF]; exact hk)
    rw [hv g] at e2
    show W p l e R s m args below meth cd H locs kc ks K (F0 m pc lsA (.ref (adr g c) :: st.map (cv g)))
    rw [adr_lt hc.2]
    rcases hlink with hlink | ⟨host, hlink⟩
    · exact va_get hx hb hts hin hown hK hW.2.1 c e1 hcl k hk (hts _ hlink) (fun x hx => by rw [hC1] at hx; exact hx) e2 hd (kk H locs lsA hW hl)
    · exact va_getN hx hb hts hin hown hK hW.2.1 c e1 hcl k hk (va_Nw.use rfl (hnw _ hlink)) (fun x hx => by rw [hC1] at hx; exact hx) e2 hd (kk H locs lsA hW hl)
end Rows2
