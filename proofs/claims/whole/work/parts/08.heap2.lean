theorem rg_set {α : Type} {n k : Nat} {F F' : Nat → α} {v : α} (hk : F' k = v) (ho : ∀ j, j ≠ k → F' j = F j) : ((List.range n).map F).set k v = (List.range n).map F' := by
  apply List.ext_getElem?
  intro j
  rw [List.getElem?_set]
  simp only [List.length_map, List.length_range, List.getElem?_map]
  by_cases hjk : k = j
  · subst hjk
    by_cases hk' : k < n
    · rw [if_pos rfl, if_pos hk', List.getElem?_range hk']
      show some v = some (F' k)
      rw [hk]
    · rw [if_pos rfl, if_neg hk', List.getElem?_eq_none (by simpa using Nat.le_of_not_lt hk')]
      rfl
  · rw [if_neg hjk]
    rcases Nat.lt_or_ge j n with h | h
    · rw [List.getElem?_range h]
      show some (F j) = some (F' j)
      rw [ho j (fun q => hjk q.symm)]
    · rw [List.getElem?_eq_none (by simpa using h)]
      rfl
/-- a number or a reference put into a field: the memory behind it -/
def putZ (c k : Nat) (v : AV) (ρ : Rm) (M : Mm) : Rm × Mm := match v with
  | .inl x => (ρ, up M c (k : Int) x)
  | .inr (.inl x) => (ρ, up M c (k : Int) x)
  | .inr (.inr r) => (upR ρ c k r, M)
/-- what may be put into a field of a type -/
def putOk (t : Nat) (v : AV) : Prop := match v with
  | .inl x => t = 0 ∨ (t = 3 ∧ (x = 0 ∨ x = 1))
  | .inr (.inl _) => t = 1
  | .inr (.inr r) => t = 2 ∧ r.isSome = true
theorem putZ_ent {g : Gp} {ρ : Rm} {M : Mm} {c k ci : Nat} {v : AV} (hKD : KD c = .inl ci) (hv : putOk (FT ci k) v) : ent g (putZ c k v ρ M).1 (putZ c k v ρ M).2 c = .inr (ci, ((List.range (NF ci)).map (fun j => fval g (FT ci j) (M c (j : Int)) (ρ c j))).set k (cv g v)) := by
  rw [ent_o hKD]
  congr 2
  symm
  rcases v with x | x | r
  · refine rg_set ?_ (fun j hj => ?_)
    · rcases hv with hv | ⟨hv, -⟩ <;> rw [hv] <;> simp [putZ, up, upA, fval, cv]
    · have : ¬ ((j : Int) = (k : Int)) := by omega
      simp [putZ, up, upA, this]
  · refine rg_set ?_ (fun j hj => ?_)
    · have hv : FT ci k = 1 := hv
      rw [hv]; simp [putZ, up, upA, fval, cv]
    · have : ¬ ((j : Int) = (k : Int)) := by omega
      simp [putZ, up, upA, this]
  · refine rg_set ?_ (fun j hj => ?_)
    · have hv : FT ci k = 2 := hv.1
      rw [hv]; simp [putZ, upR, fval]
    · simp [putZ, upR, hj]
theorem putZ_other {g : Gp} {ρ : Rm} {M : Mm} {c k j : Nat} {v : AV} (h : j ≠ c) : ent g (putZ c k v ρ M).1 (putZ c k v ρ M).2 j = ent g ρ M j := by
  rcases v with x | x | r
  · exact ent_up h
  · exact ent_up h
  · exact ent_upR h
theorem put_fits {g : Gp} {t : Nat} {ty : FieldType} {v : AV} (hv : putOk t v) (hty : tyOk t ty) : narrow ty (cv g v) = cv g v ∧ fits ty (cv g v) = true := by
  rcases v with x | x | r
  · rcases hv with hv | ⟨hv, hz⟩
    · subst hv; subst hty; exact ⟨rfl, rfl⟩
    · subst hv
      have hty : ty = .boolean := hty
      subst hty
      rcases hz with rfl | rfl
      · exact ⟨(by decide : narrow .boolean (.int (Int32.ofInt 0)) = .int (Int32.ofInt 0)), (by decide : fits .boolean (.int (Int32.ofInt 0)) = true)⟩
      · exact ⟨(by decide : narrow .boolean (.int (Int32.ofInt 1)) = .int (Int32.ofInt 1)), (by decide : fits .boolean (.int (Int32.ofInt 1)) = true)⟩
  · have hv : t = 1 := hv
    subst hv; subst hty; exact ⟨rfl, rfl⟩
  · obtain ⟨hv, hr⟩ := hv
    subst hv
    have hty : refKind ty = true := hty
    cases r with
    | none => cases hr
    | some r => cases ty <;> first | exact ⟨rfl, rfl⟩ | cases hty
section Rows3
variable {Γ : Cx} {cc : ByteArray} {own : String} {nL h kC kS : Nat} {K : State → Prop} {kc ks pc : Nat} {ls : List (Nat × AV)} {st : List AV} {N : Nat} {ρ : Rm} {M : Mm}
theorem a_putv (hΓ : Ok Γ cc own nL h kC kS) {c ci k idx : Nat} {v : AV} (hf : FLok own idx ci k) (hC : CLok ci) (hfin : ∀ q, vwCl[ci]? = some q → (q.2.1 k).2.2.2 = false) (hKD : KD c = .inl ci) (hc : c < N ∧ c < 1000) (hd : decode cc pc = .ok (.putfield idx, 3)) (hv : putOk (FT ci k) v) (kk : Wa Γ nL K kc ks (pc + 3) ls st (N, putZ c k v ρ M)) : Wa Γ nL K kc ks pc ls (v :: aR c :: st) (N, ρ, M) := by
  obtain ⟨p, l, e, R, s, m, args, below, meth, cd, g⟩ := Γ
  obtain ⟨hx, hb, hml, hown, hts, hnw, hK, hfr, hlo, hce, hsl, hlk, hgs⟩ := hΓ
  intro H locs lsA hW hl
  have e1 := ws_at g (N, ρ, M) hc.1
  rw [ent_o hKD] at e1
  unfold FLok at hf
  unfold CLok at hC
  cases hcl : vwCl[ci]? with
  | none => rw [hcl] at hf; exact hf.elim
  | some q =>
    have hfin := hfin q hcl
    obtain ⟨C, T, n⟩ := q
    rw [hcl] at hf hC
    obtain ⟨hk, hC1, hlink⟩ := hf
    obtain ⟨hin, hNF, hnm, ty, hty, htt⟩ := hC
    obtain ⟨hn1, hn2⟩ := put_fits (g := g) hv (htt k hk)
    show W p l e R s m args below meth cd H locs kc ks K (F0 m pc lsA (cv g v :: .ref (adr g c) :: st.map (cv g)))
    rw [adr_lt hc.2]
    have hP := hW.2.1
    have hD := ws_D g (N, ρ, M)
    have hap := va_apart (own := own) hts hin ty hty hnm hK hcl
    obtain ⟨r, h1, cell, q1, q2, q3, q4⟩ := hP c _ e1
    have hr : r = (C, T, n) := Option.some.inj (h1.symm.trans hcl)
    subst hr
    obtain ⟨hS, hfc, kC', hkC, hkind⟩ := hK.1 ci _ hcl
    obtain ⟨cf, kf, fi, f, hi, hsl2⟩ := hS k hk
    have hlay := hts _ (hin _ (u_in_lay hk))
    unfold u_lay at hlay
    rw [if_neg (by rw [hfin]; decide)] at hlay
    have hst := (u_facts hfc hkC (u_lays hts hin hk) hi).1
    have h6 := u_store hfc hkC hkind hlay hi (hty k hk) hn1 hn2
    have fin : ∀ H' : Heap, H'[g.1 + c]? = some (cell.setSlot f.slot (cv g v)) → H'.size = H.size → (∀ q, q ≠ g.1 + c → H'[q]? = H[q]?) → W p l e R s m args below meth cd H' (locs ++ [⟨g.1 + c, f.slot⟩]) kc ks K (F0 m (pc + 3) lsA (st.map (cv g))) := by
      intro H' f1 f2 f3
      rw [hsl2] at f1 ⊢
      have hP1 := hP.set hD e1 (H1 := H') (e := .inr (ci, ((List.range (NF ci)).map (fun j => fval g (FT ci j) (M c (j : Int)) (ρ c j))).set k (cv g v))) ⟨_, hcl, t_OB.to (V := updV (vp_V _) k (cv g v)) ⟨_, f1, q2, q3, t_set q4 hap hk (cv g v)⟩ (fun j _ => vp_updV_set (by simp; omega) (cv g v) j)⟩ f3
      rw [ws_set g (ρ' := (putZ c k v ρ M).1) (M' := (putZ c k v ρ M).2) (putZ_ent hKD hv) (fun j hj => putZ_other hj)] at hP1
      exact kk H' _ lsA ⟨fun q => f2.trans (hW.1 q), hP1, hW.2.2.put f2 f3 (hD.2 c _ e1)⟩ hl
    rcases hlink with hlink | ⟨host, hlink⟩
    · refine W.putK hx hb (f := f) ⟨hown, hts _ hlink, ⟨_, _, _, (by rw [hC1] at hi; exact hi)⟩, hst⟩ (by rw [q2]; exact h6) q1 q3 (by rw [hsl2]; exact k2_hasslot (q4 k hk)) rfl rfl hd fin
    · refine va_WputK hx hb (f := f) hown (va_Nw.use rfl (hnw _ hlink)) (by rw [hC1] at hi; exact hi) hst (by rw [q2]; exact h6) q1 q3 (by rw [hsl2]; exact k2_hasslot (q4 k hk)) rfl rfl hd fin
theorem a_putF (hΓ : Ok Γ cc own nL h kC kS) {c ci k idx : Nat} {v : AV} (hf : FLok own idx ci k) (hC : CLok ci) (hfin : ∀ q, vwCl[ci]? = some q → (q.2.1 k).2.2.2 = true ∧ q.1 = own ∧ Cond.fieldLink own idx q.1 (q.2.1 k).2.1 (q.2.1 k).2.2.1 ∈ GW) (hin2 : Γ.2.2.2.2.2.2.2.2.1.name = "<init>") (hKD : KD c = .inl ci) (hc : c < N ∧ c < 1000) (hd : decode cc pc = .ok (.putfield idx, 3)) (hv : putOk (FT ci k) v) (kk : Wa Γ nL K kc ks (pc + 3) ls st (N, putZ c k v ρ M)) : Wa Γ nL K kc ks pc ls (v :: aR c :: st) (N, ρ, M) := by
  obtain ⟨p, l, e, R, s, m, args, below, meth, cd, g⟩ := Γ
  obtain ⟨hx, hb, hml, hown, hts, hnw, hK, hfr, hlo, hce, hsl, hlk, hgs⟩ := hΓ
  intro H locs lsA hW hl
  have e1 := ws_at g (N, ρ, M) hc.1
  rw [ent_o hKD] at e1
  unfold FLok at hf
  unfold CLok at hC
  cases hcl : vwCl[ci]? with
  | none => rw [hcl] at hf; exact hf.elim
  | some q =>
    obtain ⟨hfin, hdecl, hlink⟩ := hfin q hcl
    obtain ⟨C, T, n⟩ := q
    rw [hcl] at hf hC
    obtain ⟨hk, hC1, -⟩ := hf
    obtain ⟨hin, hNF, hnm, ty, hty, htt⟩ := hC
    obtain ⟨hn1, hn2⟩ := put_fits (g := g) hv (htt k hk)
    show W p l e R s m args below meth cd H locs kc ks K (F0 m pc lsA (cv g v :: .ref (adr g c) :: st.map (cv g)))
    rw [adr_lt hc.2]
    have hP := hW.2.1
    have hD := ws_D g (N, ρ, M)
    have hap := va_apart (own := own) hts hin ty hty hnm hK hcl
    obtain ⟨r, h1, cell, q1, q2, q3, q4⟩ := hP c _ e1
    have hr : r = (C, T, n) := Option.some.inj (h1.symm.trans hcl)
    subst hr
    obtain ⟨hS, hfc, kC', hkC, hkind⟩ := hK.1 ci _ hcl
    obtain ⟨cf, kf, fi, f, hi, hsl2⟩ := hS k hk
    have hlay := hts _ (hin _ (u_in_lay hk))
    unfold u_lay at hlay
    rw [if_pos hfin] at hlay
    have hst := (u_facts hfc hkC (u_lays hts hin hk) hi).1
    have hcf : m.cls = cf := by
      obtain ⟨_, _, c', _, _, _, -, -, hf', -, -, -, hown2, -⟩ := Cond.laysFinal_spec hlay
      have e1 : c' = cf := by have := hi.symm.trans hf'; simp at this; exact this.1.symm
      rw [hC1, show C = own from hdecl] at hown2
      rw [← e1]; exact Option.some.inj (hown.symm.trans hown2)
    have h6 := u_fits hfc hkC hkind (Or.inr hlay) hi (hty k hk) hn1 hn2
    refine W.putFinK hx hb hown (hts _ hlink) (by rw [hC1] at hi; exact hi) hst hcf hin2 (by rw [q2]; exact h6) q1 q3 (by rw [hsl2]; exact k2_hasslot (q4 k hk)) rfl rfl hd fun H' f1 f2 f3 => ?_
    rw [hsl2] at f1 ⊢
    have hP1 := hP.set hD e1 (H1 := H') (e := .inr (ci, ((List.range (NF ci)).map (fun j => fval g (FT ci j) (M c (j : Int)) (ρ c j))).set k (cv g v))) ⟨_, hcl, t_OB.to (V := updV (vp_V _) k (cv g v)) ⟨_, f1, q2, q3, t_set q4 hap hk (cv g v)⟩ (fun j _ => vp_updV_set (by simp; omega) (cv g v) j)⟩ f3
    rw [ws_set g (ρ' := (putZ c k v ρ M).1) (M' := (putZ c k v ρ M).2) (putZ_ent hKD hv) (fun j hj => putZ_other hj)] at hP1
    exact kk H' _ lsA ⟨fun q => f2.trans (hW.1 q), hP1, hW.2.2.put f2 f3 (hD.2 c _ e1)⟩ hl
end Rows3
