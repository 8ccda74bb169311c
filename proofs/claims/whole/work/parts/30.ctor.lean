/-! ===== rows of the constructors: cells that are made ===== -/
theorem ws_push (g : Gp) (N : Nat) (ρ : Rm) (M : Mm) : wsOf g (N + 1, ρ, M) = wsOf g (N, ρ, M) ++ [(g.1 + N, ent g ρ M N)] := by
  unfold wsOf
  rw [List.range_succ, List.map_append]
  rfl
theorem born_fs {g : Gp} {ci n j : Nat} {ty : Nat → FieldType} (hn : NF ci = n) (hj : j < n) (htt : tyOk (FT ci j) (ty j)) {ρ : Rm} {M : Mm} {c : Nat} (hz : ∀ j : Nat, M c (j : Int) = 0) (hrz : ∀ j, ρ c j = none) : defaultValue (ty j) = vp_V ((List.range (NF ci)).map (fun j => fval g (FT ci j) (M c (j : Int)) (ρ c j))) j := by
  unfold vp_V
  rw [List.getD_eq_getElem?_getD, fs_get (by rw [hn]; exact hj), hz, hrz]
  show _ = fval g (FT ci j) 0 none
  unfold tyOk at htt
  split at htt
  · rename_i e; rw [e, htt]; rfl
  · rename_i e; rw [e, htt]; rfl
  · rename_i e; rw [e]
    cases hty : ty j <;> rw [hty] at htt <;> first | rfl | cases htt
  · rename_i x e1 e2 e3
    rw [htt]
    unfold fval
    split
    · rename_i e; exact absurd e e2
    · rename_i e; exact absurd e e3
    · rfl
section Rows6
variable {Γ : Cx} {cc : ByteArray} {own : String} {nL h kC kS : Nat} {K : State → Prop} {kc ks pc : Nat} {ls : List (Nat × AV)} {st : List AV} {N : Nat} {ρ : Rm} {M : Mm}
theorem a_new (hΓ : Ok Γ cc own nL h kC kS) {ci idx n : Nat} {C : String} {T : u_T} (hcl : vwCl[ci]? = some (C, T, n)) (hC : CLok ci) (hln : Cond.classLink own idx C ∈ GW) (hins : Cond.instantiable C n ∈ GW) (hini : Cond.initialized C ∈ GW) (hKD : KD N = .inl ci) (hN : N < NC) (hz : ∀ j : Nat, M N (j : Int) = 0) (hrz : ∀ j, ρ N j = none) (hk : kc + 1 ≤ kC ∧ ks + n ≤ kS) (hd : decode cc pc = .ok (.new idx, 3)) (kk : Wa Γ nL K (kc + 1) (ks + n) (pc + 3) ls (aR N :: st) (N + 1, ρ, M)) : Wa Γ nL K kc ks pc ls st (N, ρ, M) := by
  obtain ⟨p, l, e, R, s, m, args, below, meth, cd, g⟩ := Γ
  obtain ⟨hx, hb, hml, hown, hts, hnw, hK, hfr, hlo, hce, hsl, hlk, hgs⟩ := hΓ
  intro H locs lsA hW hl
  unfold CLok at hC
  rw [hcl] at hC
  obtain ⟨hin, hNF, hnm, ty, hty, htt⟩ := hC
  have hKn := hK.1 ci _ hcl
  have hsz : H.size = g.1 + N := hW.1 hN
  refine W.newcK hx hb hown (hts _ hln) (hts _ hins) (hts _ hini) rfl hd (Nat.le_trans hk.1 hce) (Nat.le_trans hk.2 hsl) hKn.2.1 hsz fun H1 kC' hkC e1 z1 o1 => ?_
  have hP := hW.2.1
  have hS := hW.2.2
  have hkp : ∀ (k : Nat) (x : Nat × va_E), (wsOf g (N, ρ, M))[k]? = some x → H1[x.1]? = H[x.1]? := fun k x hx => o1 x.1 (by rw [← hsz]; exact (hP k x hx).lt)
  have hP1 : va_P (g.2.2.1, g.2.2.2.1) vwCl (wsOf g (N + 1, ρ, M)) H1 := by
    rw [ws_push]
    refine (hP.kept hkp).app (fun k x hx => ?_)
    have hzk : k < 1 := (List.getElem?_eq_some_iff.mp hx).1
    rw [show k = 0 by omega] at hx
    cases hx
    rw [ent_o hKD]
    exact ⟨_, hcl, (u_born ty hts hin hKn hkC e1 hty).to (fun j hj => born_fs hNF hj (htt j hj) hz hrz)⟩
  have hres := kk H1 locs lsA ⟨fun _ => z1.trans (by show g.1 + N + 1 = g.1 + (N + 1); omega), hP1, ⟨by rw [z1, ← hsz]; exact Nat.le_succ_of_le hS.1, fun x h1 h2 => (o1 x (by rw [← hsz]; exact Nat.lt_of_lt_of_le h1 hS.1)).trans (hS.2.1 x h1 h2), hS.2.2⟩⟩ hl
  have e : (aR N :: st).map (cv g) = .ref (g.1 + N) :: st.map (cv g) := by
    show Value.ref (adr g N) :: _ = _
    rw [adr_lt (by have : NC = 126 := rfl; omega)]
  rw [e] at hres
  exact hres
theorem a_newa (hΓ : Ok Γ cc own nL h kC kS) {at_ : ArrayType} {t n : Nat} {x : Int} (hx0 : x = (n : Int)) (htt : (t = 0 ∧ at_ = .int) ∨ (t = 1 ∧ at_ = .boolean) ∨ (t = 2 ∧ at_ = .byte)) (har : Cond.arrayClass (newarray.typeOf at_) ∈ GW) (hKD : KD N = .inr (t, n)) (hN : N < NC) (hz : ∀ j : Nat, M N (j : Int) = 0) (hk : kc + 1 ≤ kC ∧ ks + n ≤ kS) (hd : decode cc pc = .ok (.newarray at_, 2)) (kk : Wa Γ nL K (kc + 1) (ks + n) (pc + 2) ls (aR N :: st) (N + 1, ρ, M)) : Wa Γ nL K kc ks pc ls (aI x :: st) (N, ρ, M) := by
  obtain ⟨p, l, e, R, s, m, args, below, meth, cd, g⟩ := Γ
  obtain ⟨hx, hb, hml, hown, hts, hnw, hK, hfr, hlo, hce, hsl, hlk, hgs⟩ := hΓ
  intro H locs lsA hW hl
  subst hx0
  have hsz : H.size = g.1 + N := hW.1 hN
  have hn := kd_n hKD
  have hnr : inR (n : Int) := by unfold inR; omega
  have zn : (Int32.ofInt (n : Int)).toNatClampNeg = n := by
    show (Int32.ofInt (n : Int)).toInt.toNat = _
    rw [t32 hnr]; omega
  have ht3 : t ≠ 3 := by rcases htt with ⟨rfl, -⟩ | ⟨rfl, -⟩ | ⟨rfl, -⟩ <;> decide
  refine va_newaK hx hb (hts _ har) (g := F0 m pc lsA ((aI (n : Int) :: st).map (cv g))) rfl hd (n := Int32.ofInt (n : Int)) (N := n) (rest := st.map (cv g)) rfl (fun q => by have := (lt32 hnr inR0).mp q; omega) zn ?_ (Nat.le_trans hk.1 hce) (Nat.le_trans hk.2 hsl) hsz fun H1 cA e1 z1 o1 hAr hNm => ?_
  · have : componentBytes (newarray.typeOf at_) ≤ 8 := by rcases htt with ⟨-, rfl⟩ | ⟨-, rfl⟩ | ⟨-, rfl⟩ <;> decide
    calc n * componentBytes (newarray.typeOf at_) ≤ 200000 * 8 := Nat.mul_le_mul hn this
      _ ≤ 536870912 := by decide
  · have hcA : cA = g.2.2.2.2 t := by
      rcases htt with ⟨rfl, rfl⟩ | ⟨rfl, rfl⟩ | ⟨rfl, rfl⟩
      · exact Option.some.inj (hNm.symm.trans (hK.2 0 _ rfl).2)
      · exact Option.some.inj (hNm.symm.trans (hK.2 1 _ rfl).2)
      · exact Option.some.inj (hNm.symm.trans (hK.2 2 _ rfl).2)
    have hdv : defaultValue (newarray.typeOf at_) = .int 0 := by rcases htt with ⟨-, rfl⟩ | ⟨-, rfl⟩ | ⟨-, rfl⟩ <;> rfl
    have hP := hW.2.1
    have hS := hW.2.2
    have hkp : ∀ (k : Nat) (x : Nat × va_E), (wsOf g (N, ρ, M))[k]? = some x → H1[x.1]? = H[x.1]? := fun k x hx => o1 x.1 (by rw [← hsz]; exact (hP k x hx).lt)
    have hP1 : va_P (g.2.2.1, g.2.2.2.1) vwCl (wsOf g (N + 1, ρ, M)) H1 := by
      rw [ws_push]
      refine (hP.kept hkp).app (fun k x hx => ?_)
      have hzk : k < 1 := (List.getElem?_eq_some_iff.mp hx).1
      rw [show k = 0 by omega] at hx
      cases hx
      rw [ent_i hKD ht3]
      show H1[g.1 + N]? = some (vp_cell _ _)
      rw [vp_cell_i, e1, hcA, hdv]
      congr 2
      funext j
      rw [hz]
      rfl
    have hres := kk H1 locs lsA ⟨fun _ => z1.trans (by show g.1 + N + 1 = g.1 + (N + 1); omega), hP1, ⟨by rw [z1, ← hsz]; exact Nat.le_succ_of_le hS.1, fun x h1 h2 => (o1 x (by rw [← hsz]; exact Nat.lt_of_lt_of_le h1 hS.1)).trans (hS.2.1 x h1 h2), hS.2.2⟩⟩ hl
    have e : (aR N :: st).map (cv g) = .ref (g.1 + N) :: st.map (cv g) := by
      show Value.ref (adr g N) :: _ = _
      rw [adr_lt (by have : NC = 126 := rfl; omega)]
    rw [e] at hres
    exact hres
theorem a_newq (hΓ : Ok Γ cc own nL h kC kS) {idx n : Nat} {x : Int} (hx0 : x = (n : Int)) (hln : Cond.classLink own idx "ShipSkins$Book" ∈ GW) (hao : Cond.arrayOver (.object "ShipSkins$Book") ∈ NW) (hKD : KD N = .inr (3, n)) (hN : N < NC) (hrz : ∀ j, ρ N j = none) (hk : kc + 1 ≤ kC ∧ ks + n ≤ kS) (hd : decode cc pc = .ok (.anewarray idx, 3)) (kk : Wa Γ nL K (kc + 1) (ks + n) (pc + 3) ls (aR N :: st) (N + 1, ρ, M)) : Wa Γ nL K kc ks pc ls (aI x :: st) (N, ρ, M) := by
  obtain ⟨p, l, e, R, s, m, args, below, meth, cd, g⟩ := Γ
  obtain ⟨hx, hb, hml, hown, hts, hnw, hK, hfr, hlo, hce, hsl, hlk, hgs⟩ := hΓ
  intro H locs lsA hW hl
  subst hx0
  have hsz : H.size = g.1 + N := hW.1 hN
  have hn := kd_n hKD
  have hnr : inR (n : Int) := by unfold inR; omega
  have zn : (Int32.ofInt (n : Int)).toNatClampNeg = n := by
    show (Int32.ofInt (n : Int)).toInt.toNat = _
    rw [t32 hnr]; omega
  have hao1 : va_AO "ShipSkins$Book" s := hnw _ hao
  refine W.anew hx hb hown (hts _ hln) (va_AO.use hao1) (g := F0 m pc lsA ((aI (n : Int) :: st).map (cv g))) rfl hd (n := Int32.ofInt (n : Int)) (rest := st.map (cv g)) rfl (fun q => by have := (lt32 hnr inR0).mp q; omega) (by rw [zn]; omega) (Nat.le_trans hk.1 hce) (by rw [zn]; exact Nat.le_trans hk.2 hsl) fun cA kA comp f1 f2 f3 f4 => ?_
  rw [zn]
  generalize hH1 : H.push ({ cls := cA, slots := Array.replicate n .null, vm := .none } : Cell) = H1
  have z1 : H1.size = g.1 + N + 1 := by rw [← hH1, Array.size_push, hsz]
  have e1 : H1[g.1 + N]? = some (arrV cA n (fun _ => .null)) := by rw [← hH1, ← hsz, Array.getElem?_push_size, ← arrV_new]
  have o1 : ∀ q : Nat, q < H.size → H1[q]? = H[q]? := fun q hq => by rw [← hH1, Array.getElem?_push, if_neg (Nat.ne_of_lt hq)]
  have hcA : cA = g.2.2.2.2 3 := by
    obtain ⟨kA', comp', k1, k2, k3, k4⟩ := (hK.2 3 _ rfl).2
    exact Option.some.inj (f1.symm.trans k4)
  have hP := hW.2.1
  have hS := hW.2.2
  have hkp : ∀ (k : Nat) (x : Nat × va_E), (wsOf g (N, ρ, M))[k]? = some x → H1[x.1]? = H[x.1]? := fun k x hx => o1 x.1 ((hP k x hx).lt)
  have hP1 : va_P (g.2.2.1, g.2.2.2.1) vwCl (wsOf g (N + 1, ρ, M)) H1 := by
    rw [ws_push]
    refine (hP.kept hkp).app (fun k x hx => ?_)
    have hzk : k < 1 := (List.getElem?_eq_some_iff.mp hx).1
    rw [show k = 0 by omega] at hx
    cases hx
    rw [ent_q hKD]
    show H1[g.1 + N]? = some (vp_cell _ _)
    rw [vp_cell_q, e1, hcA]
    congr 2
    funext j
    rw [hrz]
    rfl
  have hres := kk H1 locs lsA ⟨fun _ => z1.trans (by show g.1 + N + 1 = g.1 + (N + 1); omega), hP1, ⟨by rw [z1, ← hsz]; exact Nat.le_succ_of_le hS.1, fun x h1 h2 => (o1 x (Nat.lt_of_lt_of_le h1 hS.1)).trans (hS.2.1 x h1 h2), hS.2.2⟩⟩ hl
  have e : (aR N :: st).map (cv g) = .ref (g.1 + N) :: st.map (cv g) := by
    show Value.ref (adr g N) :: _ = _
    rw [adr_lt (by have : NC = 126 := rfl; omega)]
  rw [e, ← hsz] at hres
  exact hres
theorem a_astq (hΓ : Ok Γ cc own nL h kC kS) {c v n : Nat} {i : Int} (hd : decode cc pc = .ok (.aastore, 1)) (hKD : KD c = .inr (3, n)) (hKv : KD v = .inl 0) (hc : c < N ∧ c < 1000) (hv : v < N ∧ v < 1000) (hi : 0 ≤ i ∧ i < (n : Int)) (k : Wa Γ nL K kc ks (pc + 1) ls st (N, upR ρ c i.toNat (some v), M)) : Wa Γ nL K kc ks pc ls (aR v :: aI i :: aR c :: st) (N, ρ, M) := by
  obtain ⟨p, l, e, R, s, m, args, below, meth, cd, g⟩ := Γ
  obtain ⟨hx, hb, hml, hown, hts, hnw, hK, hfr, hlo, hce, hsl, hlk, hgs⟩ := hΓ
  intro H locs lsA hW hl
  have e1 := ws_at g (N, ρ, M) hc.1
  rw [ent_q hKD] at e1
  have e4 := ws_at g (N, ρ, M) hv.1
  rw [ent_o hKv] at e4
  obtain ⟨e2, e3⟩ := clamp32 hi (kd_n hKD)
  show W p l e R s m args below meth cd H locs kc ks K (F0 m pc lsA (.ref (adr g v) :: .int (Int32.ofInt i) :: .ref (adr g c) :: st.map (cv g)))
  rw [adr_lt hc.2, adr_lt hv.2]
  have hP := hW.2.1
  have hD := ws_D g (N, ρ, M)
  have hlt : (Int32.ofInt i).toNatClampNeg < n := Nat.not_le.mp fun q => e3 (Or.inr q)
  have h0 : ¬ Int32.ofInt i < 0 := fun q => e3 (Or.inl q)
  obtain ⟨r', hr', cellV, g1, g2, g3, -⟩ := hP v _ e4
  have hcls := (hK.1 0 _ (show vwCl[0]? = some (RX0, TX0, 15) from rfl)).2
  obtain ⟨kA, comp, k1, k2, k3, -⟩ := (hK.2 3 _ rfl).2
  have hcomp : comp = g.2.2.1 0 := Option.some.inj (k3.symm.trans hcls.1)
  subst hcomp
  obtain ⟨kC', hkC, -⟩ := hcls.2
  refine W.aast hx hb (hP c _ e1) (fun q h => by cases h) (fun h => by cases h) k1 k2 rfl hkC ⟨h0, by show _ < (arrV _ _ _).slots.size; rw [arrV_size]; exact hlt⟩ g1 (fun q h => by rw [g3] at h; cases h) (by rw [g2]; exact hkC) (by rw [g2]; exact va_assign hcls) rfl rfl hd fun H1 f1 z oq => ?_
  have hP1 := hP.set hD e1 (e := .inl (g.2.2.2.2 3, n, .inr (.inr (.inr (.inr (fun j => (upR ρ c i.toNat (some v) c j).map (adr g))))))) (H1 := H1) (by
    show H1[g.1 + c]? = some (vp_cell _ _)
    rw [f1, vp_cell_q, vp_cell_q, arrV_store, e2]
    congr 2
    funext q
    by_cases hq : q = i.toNat
    · subst hq
      simp [updV, upR, va_rf, adr_lt hv.2]
    · simp [updV, upR, hq]) oq
  rw [ws_set g (ρ' := upR ρ c i.toNat (some v)) (M' := M) (by rw [ent_q hKD]) (fun j hj => ent_upR hj)] at hP1
  exact k H1 _ lsA ⟨fun q => z.trans (hW.1 q), hP1, hW.2.2.put z oq (hD.2 c _ e1)⟩ hl
theorem c_putI (hΓ : Ok Γ cc own nL h kC kS) {c ci k idx : Nat} {x j : Int} (hf : FLok own idx ci k) (hC : CLok ci) (hfin : ∀ q, vwCl[ci]? = some q → (q.2.1 k).2.2.2 = false) (hKD : KD c = .inl ci) (hc : c < N ∧ c < 1000) (hd : decode cc pc = .ok (.putfield idx, 3)) (hv : FT ci k = 0) (hj : (k : Int) = j) (kk : Wa Γ nL K kc ks (pc + 3) ls st (N, ρ, up M c j x)) : Wa Γ nL K kc ks pc ls (aI x :: aR c :: st) (N, ρ, M) := by
  subst hj
  exact a_putv (v := aI x) hΓ hf hC hfin hKD hc hd (Or.inl hv) kk
theorem c_putR (hΓ : Ok Γ cc own nL h kC kS) {c ci k idx r : Nat} (hf : FLok own idx ci k) (hC : CLok ci) (hfin : ∀ q, vwCl[ci]? = some q → (q.2.1 k).2.2.2 = true ∧ q.1 = own ∧ Cond.fieldLink own idx q.1 (q.2.1 k).2.1 (q.2.1 k).2.2.1 ∈ GW) (hin2 : Γ.2.2.2.2.2.2.2.2.1.name = "<init>") (hKD : KD c = .inl ci) (hc : c < N ∧ c < 1000) (hd : decode cc pc = .ok (.putfield idx, 3)) (hv : FT ci k = 2) (kk : Wa Γ nL K kc ks (pc + 3) ls st (N, upR ρ c k (some r), M)) : Wa Γ nL K kc ks pc ls (aR r :: aR c :: st) (N, ρ, M) :=
  a_putF (v := aR r) hΓ hf hC hfin hin2 hKD hc hd ⟨hv, rfl⟩ kk
theorem c_getR (hΓ : Ok Γ cc own nL h kC kS) {c ci k idx r : Nat} (hf : FLok own idx ci k) (hC : CLok ci) (hKD : KD c = .inl ci) (hc : c < N ∧ c < 1000) (hd : decode cc pc = .ok (.getfield idx, 3)) (ht : FT ci k = 2) (hv : ρ c k = some r) (kk : Wa Γ nL K kc ks (pc + 3) ls (aR r :: st) (N, ρ, M)) : Wa Γ nL K kc ks pc ls (aR c :: st) (N, ρ, M) := by
  refine a_getv (v := aR r) hΓ hf hC hKD hc hd (fun g => ?_) kk
  rw [hv, ht]
  rfl
theorem c_Z {Z Z' : Zm} (e : Z = Z') (kk : Wa Γ nL K kc ks pc ls st Z') : Wa Γ nL K kc ks pc ls st Z := e ▸ kk
theorem c_k {kc' ks' : Nat} (e1 : kc = kc') (e2 : ks = ks') (Z : Zm) (kk : Wa Γ nL K kc' ks' pc ls st Z) : Wa Γ nL K kc ks pc ls st Z := e1 ▸ e2 ▸ kk
end Rows6
