/-! ===== contracts, calls, returns ===== -/
def rmk (h k n : Nat) : Room := { frames := h, cells := k, slots := n, locals := 40 * h }
def Pw (g : Gp) (av : List AV) (Z : Zm) : Array Value → State → Prop := va_Pc (av.map (cv g)) (fun U => (Z.1 < NC → U.heap.size = g.1 + Z.1) ∧ va_P (g.2.2.1, g.2.2.2.1) vwCl (wsOf g Z) U.heap ∧ va_K (g.2.2.1, g.2.2.2.1) vwCl (tysOf g) U ∧ (∀ w ∈ NW, va_Nw w U) ∧ g.1 ≤ U.heap.size)
def Qw (g : Gp) (Q : Option AV → Zm → Prop) : Array Value → State → Outcome → State → Prop := fun _ st o t => ∃ (v : Option AV) (Z' : Zm), o = .returned (v.map (cv g)) ∧ Q v Z' ∧ (Z'.1 < NC → t.heap.size = g.1 + Z'.1) ∧ va_P (g.2.2.1, g.2.2.2.1) vwCl (wsOf g Z') t.heap ∧ va_F (Af g) st t
/-- the contract of a method at given arguments and memory: it comes back with Q -/
def Ct (l : Launch) (g : Gp) (y : MethodName) (bytes : ByteArray) (maxL : Nat) (ret : Option FieldType) (h mc ms : Nat) (av : List AV) (Z : Zm) (Q : Option AV → Zm → Prop) : Prop :=
  Met l y (Cond.code y bytes maxL ret :: GW) (rmk h mc ms) (Pw g av Z) (Qw g Q) mc ms (Af g)
def Kf (Γ : Cx) (Q : Option AV → Zm → Prop) (mc ms : Nat) : State → Prop := match Γ with
  | (_, _, _, _, s, _, args, below, _, _, g) => MQ below (Qw g Q) args s mc ms (Af g)
abbrev cxg (Γ : Cx) : Gp := Γ.2.2.2.2.2.2.2.2.2.2
abbrev cxl (Γ : Cx) : Launch := Γ.2.1
abbrev cxm (Γ : Cx) : Method := Γ.2.2.2.2.2.2.2.2.1
def avargs : Nat → List AV → List (Nat × AV)
  | _, [] => []
  | i, v :: vs => (i, v) :: avargs (if isL v then i + 2 else i + 1) vs
theorem avargs_cls (g : Gp) : ∀ (av : List AV) (i : Nat), cls g (avargs i av) = lv_args i (av.map (cv g))
  | [], _ => rfl
  | v :: vs, i => by
    have e : (if isL v then i + 2 else i + 1) = (if (cv g v).category = 2 then i + 2 else i + 1) := by
      rcases v with x | x | _ | k <;> rfl
    show (i, cv g v) :: cls g (avargs _ vs) = (i, cv g v) :: lv_args _ (vs.map (cv g))
    rw [avargs_cls g vs, e]
def avsize (av : List AV) : Nat := (av.map (fun v => if isL v then 2 else 1)).sum
theorem avsize_sl (g : Gp) : ∀ av : List AV, (lg_sl (av.map (cv g))).length = avsize av
  | [] => rfl
  | v :: vs => by
    have e : (lg_sl ((v :: vs).map (cv g))).length = (if isL v then 2 else 1) + (lg_sl (vs.map (cv g))).length := by
      rcases v with x | x | _ | k <;> simp [lg_sl, isL, cv, Value.category] <;> omega
    rw [e, avsize_sl g vs]
    simp [avsize]
theorem goodIn_GW {w : Cond} (h : w ∈ GW) : GoodIn GW (w :: GW) := by
  intro x hx
  rcases List.mem_cons.mp hx with rfl | hx
  · exact ⟨h, good_of_word (gw_good h)⟩
  · exact ⟨hx, good_of_word (gw_good hx)⟩
theorem NW_cases {w : Cond} (h2 : isNest w = true) : (∃ a b c d, w = .methodLinkNest a b c d) ∨ (∃ a b c d e f, w = .fieldLinkNest a b c d e f) ∨ ∃ C, w = .arrayOver (.object C) := by
  cases w with
  | methodLinkNest a b c d => exact Or.inl ⟨a, b, c, d, rfl⟩
  | fieldLinkNest a b c d e f => exact Or.inr (Or.inl ⟨a, b, c, d, e, f, rfl⟩)
  | arrayOver t => cases t with
    | object C => exact Or.inr (Or.inr ⟨C, rfl⟩)
    | _ => cases h2
  | _ => cases h2
theorem NW_warm {s U : State} (hW : s.WarmedH U.vm) (h : ∀ w ∈ NW, va_Nw w s) : ∀ w ∈ NW, va_Nw w U := by
  intro w hw
  have h1 := h w hw
  rcases NW_cases (List.mem_filter.mp hw).2 with ⟨_, _, _, _, rfl⟩ | ⟨_, _, _, _, _, _, rfl⟩ | ⟨C, rfl⟩
  · exact va_Nw.warmM hW h1
  · exact va_Nw.warmF hW h1
  · exact va_AO.moved (C := C) hW.alike h1
theorem NW_same {s U : State} (hv : s.vm = U.vm) (h : ∀ w ∈ NW, va_Nw w s) : ∀ w ∈ NW, va_Nw w U := by
  intro w hw
  have h1 := h w hw
  rcases NW_cases (List.mem_filter.mp hw).2 with ⟨_, _, _, _, rfl⟩ | ⟨_, _, _, _, _, _, rfl⟩ | ⟨C, rfl⟩
  · exact va_Nw.same rfl hv h1
  · exact va_Nw.same rfl hv h1
  · exact va_AO.moved (C := C) (by rw [← hv]; exact Vm.Alike.refl _) h1
theorem Pw_blind (g : Gp) (av : List AV) (Z : Zm) : FrameBlind (Pw g av Z) := by
  intro a U f mk q
  obtain ⟨q0, q1, q2, q3, q4, q5⟩ := q
  exact ⟨q0, q1, q2, va_K.moved (u := U) (U := U.calling f mk a) (Vm.Alike.refl U.vm) q3, NW_same (s := U) (U := U.calling f mk a) rfl q4, q5⟩
/-- a contract out of a walk -/
theorem ct_of {l : Launch} {g : Gp} {y : MethodName} {bytes : ByteArray} {maxL h mc ms : Nat} {ret : Option FieldType} {av : List AV} {Z : Zm} {Q : Option AV → Zm → Prop} (hy : plainName y.cls = true) (hsz : avsize av ≤ maxL)
    (body : ∀ Γ : Cx, cxg Γ = g → cxl Γ = l → (cxm Γ).sig.returnType = ret → (cxm Γ).name = y.name → Ok Γ bytes y.cls maxL h mc ms → Wa Γ maxL (Kf Γ Q mc ms) 0 0 0 (avargs 0 av) [] Z) : Ct l g y bytes maxL ret h mc ms av Z Q := by
  refine Met.ofW (cc := bytes) (maxL := maxL) (ret := ret) hy rfl ?_
  intro p e s m args below meth c s₁ B hml hv
  obtain ⟨rfl, hz, hP, hK, hN, hgs⟩ := hv
  have hts := atoms_spec (ws := Cond.code y bytes maxL ret :: GW) B.pre
  have hk := body (p, l, e, rmk h mc ms, s, m, (av.map (cv g)).toArray, below, meth, c, g) rfl rfl B.returns (name_of_methodNamed B.named B.method).1 ⟨B.exec, B.bytes, hml, findClass_of_methodNamed B.named, fun w hw => hts w (List.mem_cons_of_mem _ hw), hN, hK, Nat.le_refl _, Nat.le_refl _, Nat.le_refl _, Nat.le_refl _, B.notSynchronized, hgs⟩
  rw [lg_entry_eq]
  refine hk s.heap [] _ ⟨hz, hP, va_S.rf⟩ ?_
  rw [avargs_cls]
  exact lv_entry _ (by rw [avsize_sl]; exact hsz)
section Rows4
variable {Γ : Cx} {cc : ByteArray} {own : String} {nL h kC kS : Nat} {K : State → Prop} {kc ks pc : Nat} {ls : List (Nat × AV)} {st : List AV} {Z : Zm} {Q : Option AV → Zm → Prop}
theorem a_iret (hΓ : Ok Γ cc own nL h kC kS) (hr : (cxm Γ).sig.returnType = some .int) {x : Int} (hd : decode cc pc = .ok (.ireturn, 1)) (hq : Q (some (aI x)) Z) : Wa Γ nL (Kf Γ Q kc ks) kc ks pc ls [aI x] Z := by
  obtain ⟨p, l, e, R, s, m, args, below, meth, c, g⟩ := Γ
  obtain ⟨hx, hb, hml, hown, hts, hnw, hK, hfr, hlo, hce, hsl, hlk, hgs⟩ := hΓ
  intro H locs lsA hW hl
  refine W.iret (v := Int32.ofInt x) hx hb hr (fun t ht hw => ⟨some (aI x), Z, rfl, hq, by rw [ht]; exact hW.1, by rw [ht]; exact hW.2.1, hW.2.2.F ht⟩) hW.2.2.2.2 hd hlk
theorem a_zret (hΓ : Ok Γ cc own nL h kC kS) (hr : (cxm Γ).sig.returnType = some .boolean) {x : Int} (hv : x = 0 ∨ x = 1) (hd : decode cc pc = .ok (.ireturn, 1)) (hq : Q (some (aI x)) Z) : Wa Γ nL (Kf Γ Q kc ks) kc ks pc ls [aI x] Z := by
  obtain ⟨p, l, e, R, s, m, args, below, meth, c, g⟩ := Γ
  obtain ⟨hx, hb, hml, hown, hts, hnw, hK, hfr, hlo, hce, hsl, hlk, hgs⟩ := hΓ
  intro H locs lsA hW hl
  refine W.zret (v := Int32.ofInt x) (ty := .boolean) hx hb hr (by rcases hv with rfl | rfl <;> decide) (fun t ht hw => ⟨some (aI x), Z, rfl, hq, by rw [ht]; exact hW.1, by rw [ht]; exact hW.2.1, hW.2.2.F ht⟩) hW.2.2.2.2 hd hlk
theorem a_lret (hΓ : Ok Γ cc own nL h kC kS) (hr : (cxm Γ).sig.returnType = some .long) {x : Int} (hd : decode cc pc = .ok (.lreturn, 1)) (hq : Q (some (aL x)) Z) : Wa Γ nL (Kf Γ Q kc ks) kc ks pc ls [aL x] Z := by
  obtain ⟨p, l, e, R, s, m, args, below, meth, c, g⟩ := Γ
  obtain ⟨hx, hb, hml, hown, hts, hnw, hK, hfr, hlo, hce, hsl, hlk, hgs⟩ := hΓ
  intro H locs lsA hW hl
  refine W.lret (v := Int64.ofInt x) hx hb hr (fun t ht hw => ⟨some (aL x), Z, rfl, hq, by rw [ht]; exact hW.1, by rw [ht]; exact hW.2.1, hW.2.2.F ht⟩) hW.2.2.2.2 hd hlk
theorem a_vret (hΓ : Ok Γ cc own nL h kC kS) (hr : (cxm Γ).sig.returnType = none) (hd : decode cc pc = .ok (.return_, 1)) (hq : Q none Z) : Wa Γ nL (Kf Γ Q kc ks) kc ks pc ls [] Z := by
  obtain ⟨p, l, e, R, s, m, args, below, meth, c, g⟩ := Γ
  obtain ⟨hx, hb, hml, hown, hts, hnw, hK, hfr, hlo, hce, hsl, hlk, hgs⟩ := hΓ
  intro H locs lsA hW hl
  refine W.vret hx hb hr (fun t ht hw => ⟨none, Z, rfl, hq, by rw [ht]; exact hW.1, by rw [ht]; exact hW.2.1, hW.2.2.F ht⟩) hW.2.2.2.2 hd hlk
/-- a method's words: its code, that it is of an instance (or static), that it is selected, that its class is there; how many arguments -/
def MYok (st : Bool) (y : MethodName) (bytes : ByteArray) (maxL : Nat) (ret : Option FieldType) (n : Nat) : Prop :=
  Cond.code y bytes maxL ret ∈ GW ∧ (if st then Cond.static y ∈ GW else Cond.instanceMethod y ∈ GW ∧ (y.name = "<init>" ∨ Cond.selects y.cls y y ∈ GW)) ∧ Cond.initialized y.cls ∈ GW ∧ (y.cls ≠ "java/lang/invoke/MethodHandle" ∧ y.cls ≠ "java/lang/invoke/VarHandle") ∧ (parseMethodDescriptor y.desc).map (fun d => d.parameters.length) = some n
def MLok (own : String) (idx : Nat) (y : MethodName) : Prop := Cond.methodLink own idx y ∈ GW ∨ ∃ host, Cond.methodLinkNest own idx y host ∈ NW
theorem a_back {p : Program} {l : Launch} {e : Env} {R : Room} {s : State} {m : MethodId} {args : Array Value} {below : List Frame} {meth : Method} {c : Code} {g : Gp} {H : Heap} {locs : List Loc} {lsA : Array Slot} {mc ms : Nat} {stk : List Value} {a : Array Value} {Q' : Option AV → Zm → Prop}
    (hr : va_Run p l e R s m args below meth c H locs kc ks mc ms (F0 m pc lsA stk) (st.map (cv g)) (Qw g Q' a) (Af g)) (hS : va_S (Af g) s.heap H locs) (hl : lv_has lsA nL (cls g ls))
    (kk : ∀ (v : Option AV) (Z' : Zm), Q' v Z' → Wa (p, l, e, R, s, m, args, below, meth, c, g) nL K (kc + mc) (ks + ms) (pc + 3) ls (v.toList ++ st) Z') : W p l e R s m args below meth c H locs kc ks K (F0 m pc lsA stk) := by
  intro T hT X
  obtain ⟨v, st₀, t, T', L, h0, X', hL, e1, e2, ⟨v', Z', hv, hq, hsz, hP', hz, hk⟩, gs⟩ := hr T hT X
  have hv : v = v'.map (cv g) := by cases hv; rfl
  subst hv
  rw [h0] at hz hk
  have hSn : va_S (Af g) s.heap T'.heap (locs ++ L) := ⟨Nat.le_trans hS.1 (by rw [e1]; exact hz), fun q h1 h2 => by rw [e1, hk q (Nat.lt_of_lt_of_le h1 hS.1) h2]; exact hS.2.1 q h1 h2, fun q hq => by
      rcases List.mem_append.mp hq with h | h
      · exact hS.2.2 q h
      · exact hL q h⟩
  obtain ⟨t2, a1, b1⟩ := kk v' Z' hq T'.heap (locs ++ L) lsA ⟨by rw [e1]; exact hsz, by rw [e1]; exact hP', hSn⟩ hl T' rfl X'
  refine ⟨t2, gs t2 ?_, b1⟩
  have es : (v'.map (cv g)).toList ++ st.map (cv g) = (v'.toList ++ st).map (cv g) := by cases v' <;> rfl
  rw [es]
  exact a1
theorem a_callV (hΓ : Ok Γ cc own nL h kC kS) {y : MethodName} {bytes : ByteArray} {maxL h' mc ms n idx c ci : Nat} {ret : Option FieldType} {av stk : List AV} {Q' : Option AV → Zm → Prop} (hM : Ct (cxl Γ) (cxg Γ) y bytes maxL ret h' mc ms (aR c :: av) Z Q') (hy : MYok false y bytes maxL ret n) (hl : MLok own idx y) (hni : y.name ≠ "<init>") (hKD : KD c = .inl ci) (hcn : (vwCl[ci]?).map (fun q => q.1) = some y.cls) (hc : c < Z.1 ∧ c < 1000) (hn : av.length = n) (hh : h' + 1 ≤ h) (hmx : maxL ≤ 21) (hk : kc + mc ≤ kC ∧ ks + ms ≤ kS) (hcat : avsize st ≤ 8) (hstk : stk = av.reverse ++ aR c :: st) (hd : decode cc pc = .ok (.invokevirtual idx, 3))
    (kk : ∀ (v : Option AV) (Z' : Zm), Q' v Z' → Wa Γ nL K (kc + mc) (ks + ms) (pc + 3) ls (v.toList ++ st) Z') : Wa Γ nL K kc ks pc ls stk Z := by
  obtain ⟨p, l, e, R, s, m, args, below, meth, cd, g⟩ := Γ
  obtain ⟨hx, hb, hml, hown, hts, hnw, hK, hfr, hlo, hce, hsl, hlk, hgs⟩ := hΓ
  intro H locs lsA hW hlv
  subst hstk
  obtain ⟨hcode, hinst, hini, hmh, hlen⟩ := hy
  have hinst : Cond.instanceMethod y ∈ GW ∧ (y.name = "<init>" ∨ Cond.selects y.cls y y ∈ GW) := hinst
  have hsel := hinst.2.resolve_left hni
  have e1 := ws_at g Z hc.1
  rw [ent_o hKD] at e1
  cases hcl : vwCl[ci]? with
  | none => rw [hcl] at hcn; cases hcn
  | some q =>
    rw [hcl] at hcn
    have hcn : q.1 = y.cls := Option.some.inj hcn
    have hrec := va_recv hK hW.2.1 (q0 := c) hcl e1
    rw [hcn] at hrec
    have hpre : PreV s H y.cls (g.1 + c) (Pw g (aR c :: av) Z) (av.map (cv g)) := ⟨Pw_blind g _ Z, hrec, fun U hU hw => ⟨by show _ = (Value.ref (adr g c) :: av.map (cv g)).toArray; rw [adr_lt hc.2], by rw [hU]; exact hW.1, by rw [hU]; exact hW.2.1, va_K.moved hw.alike hK, NW_warm hw hnw, by rw [hU]; exact Nat.le_trans hgs hW.2.2.1⟩⟩
    have hstk : (av.reverse ++ aR c :: st).map (cv g) = (av.map (cv g)).reverse ++ .ref (g.1 + c) :: st.map (cv g) := by
      rw [List.map_append, List.map_reverse, List.map_cons]
      show _ ++ Value.ref (adr g c) :: _ = _
      rw [adr_lt hc.2]
    have hcat2 : 2 * (F0 m pc lsA ((av.reverse ++ aR c :: st).map (cv g))).monitorRoom + ((st.map (cv g)).map fun v => v.category).sum ≤ 8 := by
      refine lv_room ?_
      refine Nat.le_trans (Nat.le_of_eq ?_) hcat
      unfold avsize
      rw [List.map_map]
      congr 1
      apply List.map_congr_left
      intro v _
      rcases v with x | x | _ | k <;> rfl
    have hCF : CallFix p m cd cc nL s args GW own := ⟨hx, hb, hml, hown, hts⟩
    have hR : (rmk h' mc ms).frames + 1 ≤ R.frames ∧ 8 + (maxL + 11) + (rmk h' mc ms).locals ≤ R.locals := ⟨by show h' + 1 ≤ _; omega, by show 8 + (maxL + 11) + 40 * h' ≤ _; omega⟩
    have hRun : va_Run p l e R s m args below meth cd H locs kc ks mc ms (F0 m pc lsA ((av.reverse ++ aR c :: st).map (cv g))) (st.map (cv g)) (Qw g Q' (Value.ref (g.1 + c) :: av.map (cv g)).toArray) (Af g) := by
      rcases hl with hl | ⟨host, hl⟩
      · exact va_runV (C := y.cls) hCF hM ⟨callB_of n hts (goodIn_GW hcode) rfl rfl rfl (hts _ hini) (hts _ hl) ⟨hmh.1, hmh.2, hlen⟩ hR, hts _ hinst.1, hts _ hsel⟩ hpre rfl (by rw [List.length_map]; exact hn) hlv.1 hstk hcat2 hd ⟨Nat.le_trans hk.1 hce, Nat.le_trans hk.2 hsl⟩
      · exact va_runVN (C := y.cls) (host := host) hCF hM ⟨va_cnB n hts (goodIn_GW hcode) rfl rfl rfl (hnw _ hl) (hts _ hini) ⟨hmh.1, hmh.2, hlen⟩ hR, hts _ hinst.1, hts _ hsel⟩ hpre rfl (by rw [List.length_map]; exact hn) hlv.1 hstk hcat2 hd ⟨Nat.le_trans hk.1 hce, Nat.le_trans hk.2 hsl⟩
    exact a_back hRun hW.2.2 hlv kk
theorem a_cat {g : Gp} {m : MethodId} {lsA : Array Slot} {stk : List Value} (hcat : avsize st ≤ 8) : 2 * (F0 m pc lsA stk).monitorRoom + ((st.map (cv g)).map fun v => v.category).sum ≤ 8 := by
  refine lv_room ?_
  refine Nat.le_trans (Nat.le_of_eq ?_) hcat
  unfold avsize
  rw [List.map_map]
  congr 1
  apply List.map_congr_left
  intro v _
  rcases v with x | x | _ | k <;> rfl
theorem a_callS (hΓ : Ok Γ cc own nL h kC kS) {y : MethodName} {bytes : ByteArray} {maxL h' mc ms n idx : Nat} {ret : Option FieldType} {av stk : List AV} {Q' : Option AV → Zm → Prop} (hM : Ct (cxl Γ) (cxg Γ) y bytes maxL ret h' mc ms av Z Q') (hy : MYok true y bytes maxL ret n) (hl : MLok own idx y) (hn : av.length = n) (hh : h' + 1 ≤ h) (hmx : maxL ≤ 21) (hk : kc + mc ≤ kC ∧ ks + ms ≤ kS) (hcat : avsize st ≤ 8) (hstk : stk = av.reverse ++ st) (hd : decode cc pc = .ok (.invokestatic idx, 3))
    (kk : ∀ (v : Option AV) (Z' : Zm), Q' v Z' → Wa Γ nL K (kc + mc) (ks + ms) (pc + 3) ls (v.toList ++ st) Z') : Wa Γ nL K kc ks pc ls stk Z := by
  obtain ⟨p, l, e, R, s, m, args, below, meth, cd, g⟩ := Γ
  obtain ⟨hx, hb, hml, hown, hts, hnw, hK, hfr, hlo, hce, hsl, hlk, hgs⟩ := hΓ
  intro H locs lsA hW hlv
  subst hstk
  obtain ⟨hcode, hinst, hini, hmh, hlen⟩ := hy
  have hinst : Cond.static y ∈ GW := hinst
  have hpre : PreS s H (Pw g av Z) (av.map (cv g)) := ⟨Pw_blind g _ Z, fun U hU hw => ⟨rfl, by rw [hU]; exact hW.1, by rw [hU]; exact hW.2.1, va_K.moved hw.alike hK, NW_warm hw hnw, by rw [hU]; exact Nat.le_trans hgs hW.2.2.1⟩⟩
  have hstk : (av.reverse ++ st).map (cv g) = (av.map (cv g)).reverse ++ st.map (cv g) := by
    rw [List.map_append, List.map_reverse]
  have hcat2 := a_cat (g := g) (m := m) (pc := pc) (lsA := lsA) (stk := (av.reverse ++ st).map (cv g)) hcat
  have hCF : CallFix p m cd cc nL s args GW own := ⟨hx, hb, hml, hown, hts⟩
  have hR : (rmk h' mc ms).frames + 1 ≤ R.frames ∧ 8 + (maxL + 11) + (rmk h' mc ms).locals ≤ R.locals := ⟨by show h' + 1 ≤ _; omega, by show 8 + (maxL + 11) + 40 * h' ≤ _; omega⟩
  have hRun : va_Run p l e R s m args below meth cd H locs kc ks mc ms (F0 m pc lsA ((av.reverse ++ st).map (cv g))) (st.map (cv g)) (Qw g Q' (av.map (cv g)).toArray) (Af g) := by
    rcases hl with hl | ⟨host, hl⟩
    · exact va_runS hCF hM ⟨callB_of n hts (goodIn_GW hcode) rfl rfl rfl (hts _ hini) (hts _ hl) ⟨hmh.1, hmh.2, hlen⟩ hR, hts _ hinst⟩ hpre rfl (by rw [List.length_map]; exact hn) hlv.1 hstk hcat2 hd ⟨Nat.le_trans hk.1 hce, Nat.le_trans hk.2 hsl⟩
    · exact va_runSN (host := host) hCF hM ⟨va_cnB n hts (goodIn_GW hcode) rfl rfl rfl (hnw _ hl) (hts _ hini) ⟨hmh.1, hmh.2, hlen⟩ hR, hts _ hinst, trivial⟩ hpre rfl (by rw [List.length_map]; exact hn) hlv.1 hstk hcat2 hd ⟨Nat.le_trans hk.1 hce, Nat.le_trans hk.2 hsl⟩
  exact a_back hRun hW.2.2 hlv kk
theorem a_callI (hΓ : Ok Γ cc own nL h kC kS) {y : MethodName} {bytes : ByteArray} {maxL h' mc ms n idx c : Nat} {av stk : List AV} {Q' : Option AV → Zm → Prop} (hM : Ct (cxl Γ) (cxg Γ) y bytes maxL none h' mc ms (aR c :: av) Z Q') (hy : MYok false y bytes maxL none n) (hl : MLok own idx y) (hni : y.name = "<init>") (hc : c < Z.1 ∧ c < 1000) (hn : av.length = n) (hh : h' + 1 ≤ h) (hmx : maxL ≤ 21) (hk : kc + mc ≤ kC ∧ ks + ms ≤ kS) (hcat : avsize st ≤ 8) (hstk : stk = av.reverse ++ aR c :: st) (hd : decode cc pc = .ok (.invokespecial idx, 3))
    (kk : ∀ (v : Option AV) (Z' : Zm), Q' v Z' → Wa Γ nL K (kc + mc) (ks + ms) (pc + 3) ls (v.toList ++ st) Z') : Wa Γ nL K kc ks pc ls stk Z := by
  obtain ⟨p, l, e, R, s, m, args, below, meth, cd, g⟩ := Γ
  obtain ⟨hx, hb, hml, hown, hts, hnw, hK, hfr, hlo, hce, hsl, hlk, hgs⟩ := hΓ
  intro H locs lsA hW hlv
  subst hstk
  obtain ⟨hcode, hinst, hini, hmh, hlen⟩ := hy
  have hinst : Cond.instanceMethod y ∈ GW ∧ (y.name = "<init>" ∨ Cond.selects y.cls y y ∈ GW) := hinst
  have hpre : PreS s H (Pw g (aR c :: av) Z) (.ref (g.1 + c) :: av.map (cv g)) := ⟨Pw_blind g _ Z, fun U hU hw => ⟨by show _ = (Value.ref (adr g c) :: av.map (cv g)).toArray; rw [adr_lt hc.2], by rw [hU]; exact hW.1, by rw [hU]; exact hW.2.1, va_K.moved hw.alike hK, NW_warm hw hnw, by rw [hU]; exact Nat.le_trans hgs hW.2.2.1⟩⟩
  have hstk : (av.reverse ++ aR c :: st).map (cv g) = (av.map (cv g)).reverse ++ .ref (g.1 + c) :: st.map (cv g) := by
    rw [List.map_append, List.map_reverse, List.map_cons]
    show _ ++ Value.ref (adr g c) :: _ = _
    rw [adr_lt hc.2]
  have hcat2 := a_cat (g := g) (m := m) (pc := pc) (lsA := lsA) (stk := (av.reverse ++ aR c :: st).map (cv g)) hcat
  have hCF : CallFix p m cd cc nL s args GW own := ⟨hx, hb, hml, hown, hts⟩
  have hR : (rmk h' mc ms).frames + 1 ≤ R.frames ∧ 8 + (maxL + 11) + (rmk h' mc ms).locals ≤ R.locals := ⟨by show h' + 1 ≤ _; omega, by show 8 + (maxL + 11) + 40 * h' ≤ _; omega⟩
  have hRun : va_Run p l e R s m args below meth cd H locs kc ks mc ms (F0 m pc lsA ((av.reverse ++ aR c :: st).map (cv g))) (st.map (cv g)) (Qw g Q' (Value.ref (g.1 + c) :: av.map (cv g)).toArray) (Af g) := by
    rcases hl with hl | ⟨host, hl⟩
    · exact va_runI hCF hM ⟨callB_of n hts (goodIn_GW hcode) rfl rfl rfl (hts _ hini) (hts _ hl) ⟨hmh.1, hmh.2, hlen⟩ hR, hni, hts _ hinst.1⟩ hpre rfl (by rw [List.length_map]; exact hn) hlv.1 hstk hcat2 hd ⟨Nat.le_trans hk.1 hce, Nat.le_trans hk.2 hsl⟩
    · exact va_runIN (host := host) hCF hM ⟨va_cnB n hts (goodIn_GW hcode) rfl rfl rfl (hnw _ hl) (hts _ hini) ⟨hmh.1, hmh.2, hlen⟩ hR, hni, hts _ hinst.1⟩ hpre rfl (by rw [List.length_map]; exact hn) hlv.1 hstk hcat2 hd ⟨Nat.le_trans hk.1 hce, Nat.le_trans hk.2 hsl⟩
  exact a_back hRun hW.2.2 hlv kk
/-- Object's own constructor -/
theorem a_obj (hΓ : Ok Γ cc own nL h kC kS) {idx c : Nat} (hh : 1 ≤ h) (hl : Cond.methodLink own idx Lib.objectInit ∈ GW) (hi : Cond.instanceMethod Lib.objectInit ∈ GW) (hcd : Cond.code Lib.objectInit ⟨#[0xb1]⟩ 1 none ∈ GW) (hcat : avsize st ≤ 8) (hd : decode cc pc = .ok (.invokespecial idx, 3)) (kk : Wa Γ nL K kc ks (pc + 3) ls st Z) : Wa Γ nL K kc ks pc ls (aR c :: st) Z := by
  obtain ⟨p, l, e, R, s, m, args, below, meth, cd, g⟩ := Γ
  obtain ⟨hx, hb, hml, hown, hts, hnw, hK, hfr, hlo, hce, hsl, hlk, hgs⟩ := hΓ
  intro H locs lsA hW hlv
  have hcat2 := a_cat (g := g) (m := m) (pc := pc) (lsA := lsA) (stk := (aR c :: st).map (cv g)) hcat
  exact W.objInit hx hb hown (hts _ hl) (hts _ hi) (hts _ hcd) (g := F0 m pc lsA ((aR c :: st).map (cv g))) rfl (by rw [hml]; exact hlv.1) (a := adr g c) (rest := st.map (cv g)) rfl hd (by omega) (by omega) (kk H locs lsA hW hlv)
/-- System.arraycopy of a whole row of ints, from its beginning -/
def cpy (M : Mm) (c0 c1 : Nat) (n : Nat) : Mm := fun c => if c = c1 then (fun i => if 0 ≤ i ∧ i < (n : Int) then M c0 i else M c1 i) else M c
theorem a_copy (hΓ : Ok Γ cc own nL h kC kS) {ρ : Rm} {M : Mm} {N c0 c1 n idx : Nat} (hN : N = NC) (hh : 1 ≤ h) (hl : Cond.methodLink own idx arraycopyName ∈ GW) (hna : Cond.native arraycopyName ∈ GW) (hsta : Cond.static arraycopyName ∈ GW) (hini : Cond.initialized "java/lang/System" ∈ GW) (hK0 : KD c0 = .inr (0, n)) (hK1 : KD c1 = .inr (0, n)) (hc0 : c0 < N ∧ c0 < 1000) (hc1 : c1 < N ∧ c1 < 1000) (hcat : avsize st ≤ 8) (hd : decode cc pc = .ok (.invokestatic idx, 3)) (kk : Wa Γ nL K kc ks (pc + 3) ls st (N, ρ, cpy M c0 c1 n)) : Wa Γ nL K kc ks pc ls (aI (n : Int) :: aI 0 :: aR c1 :: aI 0 :: aR c0 :: st) (N, ρ, M) := by
  obtain ⟨p, l, e, R, s, m, args, below, meth, cd, g⟩ := Γ
  obtain ⟨hx, hb, hml, hown, hts, hnw, hK, hfr, hlo, hce, hsl, hlk, hgs⟩ := hΓ
  intro H locs lsA hW hlv
  have e0 := ws_at g (N, ρ, M) hc0.1
  rw [ent_i hK0 (by decide)] at e0
  have e1 := ws_at g (N, ρ, M) hc1.1
  rw [ent_i hK1 (by decide)] at e1
  have hn := kd_n hK0
  have hnr : inR (n : Int) := by unfold inR; omega
  have z0 : (Int32.ofInt 0).toNatClampNeg = 0 := by decide
  have zn : (Int32.ofInt (n : Int)).toNatClampNeg = n := by
    show (Int32.ofInt (n : Int)).toInt.toNat = _
    rw [t32 hnr]; omega
  have hcat2 := a_cat (g := g) (m := m) (pc := pc) (lsA := lsA) (stk := []) hcat
  show W p l e R s m args below meth cd H locs kc ks K (F0 m pc lsA (.int (Int32.ofInt (n : Int)) :: .int (Int32.ofInt 0) :: .ref (adr g c1) :: .int (Int32.ofInt 0) :: .ref (adr g c0) :: st.map (cv g)))
  rw [adr_lt hc0.2, adr_lt hc1.2]
  refine va_copyi hx hb (by rw [hml]; exact hlv.1.symm) hown (hts _ hl) (hts _ hna) (hts _ hsta) (hts _ hini) hK hW.2.1 (ws_D g _) hW.2.2 c0 c1 0 0 e0 e1 rfl rfl rfl (by decide) (by decide) (fun q => by have := (lt32 hnr inR0).mp q; omega) (by rw [z0, zn]; omega) (by rw [z0, zn]; omega) (fun i hi => rfl) (by omega) ?_ hd fun H1 locs1 hP1 hD1 hS1 => ?_
  · have : nativeFrameWords "java/lang/System" "arraycopy" 5 ≤ 20 := by decide
    omega
  · rw [z0, zn, ws_set g (ρ' := ρ) (M' := cpy M c0 c1 n) (k := c1) ?_ ?_] at hP1
    · exact kk H1 locs1 lsA ⟨fun q => absurd (hN ▸ q : NC < NC) (Nat.lt_irrefl _), hP1, hS1⟩ hlv
    · rw [ent_i hK1 (by decide)]
      congr 3
      congr 1
      funext j
      unfold va_cpy cpy
      simp only [if_pos]
      by_cases hj : j < n
      · rw [if_pos (by omega), if_pos (by omega)]
        simp
      · rw [if_neg (by omega), if_neg (by omega)]
    · intro j hj
      unfold ent cpy
      simp only [if_neg hj]
end Rows4
