/-! THE CLAIM OUT OF ONE WALK OF THE LAW'S BODY. Your part is whole_start (and what it stands on); all else here is the same for every law, but numbers. -/
def R_law : String := "ShipSkinsLaw"
def lw_P (b : Addr) (xs : List Int32) (args : Array Value) (s : State) : Prop := args = #[.ref b] ∧ s.IntsAt b xs ∧ xs.length ≤ 3584 ∧ (Jvm.Cond.and given_1 narrow_1).before args s = true
def lw_Q (_ : Array Value) (s : State) (o : Outcome) (t : State) : Prop := o = .returned (some (.int 1)) ∧ Framed s o t [] 600000 7302250
def lw_Z (below : List Frame) (a : Array Value) (s : State) : State → Prop := fun t => ∃ o, t.status = .running ∧ Ended t below o ∧ lw_Q a s o t
/-- the law's own end, with 1 on the stack, nothing written that was there before, its room as the claim has it -/
theorem lw_ret {p : Program} {l : Launch} {e : Env} {s : State} {m : MethodId} {below : List Frame} {meth : Method} {c : Code} {b : Nat} (hx : p.tables.exec = Jvm.exec) (hb : c.code = code) (hr : meth.sig.returnType = ret) (hlocks : meth.locks = false) {pc : Nat} {H : Heap} {ls : Array Slot} (hdg : decode code pc = .ok (.ireturn, 1)) : W p l e room_1 s m #[Value.ref b] below meth c H [] 600000 7302250 (lw_Z below #[Value.ref b] s) (F0 m pc ls [.int 1]) := by
  intro T hT X
  obtain ⟨fs, hret, hrun, hended, hW, hframe⟩ := X.leave (v := some (.int 1)) (hlocks := hlocks) (fun h => by rw [hr] at h; cases h)
  have hmeth' : T.vm.method? m = some meth := X.method'
  refine ⟨T.setFrames fs, ?_, .returned (some (.int 1)), hrun, hended, rfl, ⟨_, rfl⟩, hW, hframe⟩
  jvm_step X.here [X.here.top, hx, hb, hdg, hmeth', hr, ret, narrow_b1]
  (try refine ⟨rfl, ?_⟩); (try refine ⟨rfl, ?_⟩)
  first | (intro acts; rw [hret _ acts rfl rfl rfl]) | rw [hret _ _ rfl rfl rfl]
  exact Steps.refl _
/-- what holds at the law's entry: the machine, the code, the tables' words (any of lw_tbl by 'hts w (by decide +kernel)'), the script of L ints xs at the cell b, what the Statement gives of the start (any of its parts by flat_of_before) -/
def lw_At (p : Program) (s : State) (m : MethodId) (meth : Method) (c : Code) (b L : Nat) (xs : Nat → Int32) : Prop :=
  p.tables.exec = Jvm.exec ∧ c.code = code ∧ meth.sig.returnType = ret ∧ c.maxLocals = 4 ∧ s.vm.findClass R_law = some m.cls ∧ (∀ w ∈ lw_tbl, w.before #[Value.ref b] s = true) ∧ va_X b L xs s s.heap ∧ b < s.heap.size ∧ meth.locks = false ∧ (Jvm.Cond.and given_1 narrow_1).before #[Value.ref b] s = true

/-! ===== the law's own rows ===== -/
def Xi (xs : Nat → Int32) (i : Int) : Int := (xs i.toNat).toInt
/-- the script of L ints lies at the cell that the law's argument is -/
def LX (Γ : Cx) (L : Nat) (xs : Nat → Int32) : Prop := match Γ with
  | (_, _, _, _, s, _, _, _, _, _, g) => va_X g.2.1 L xs s s.heap ∧ g.2.1 < s.heap.size ∧ g.2.1 < g.1 ∧ L ≤ 200000
theorem inR_Xi (xs : Nat → Int32) (i : Int) : inR (Xi xs i) := inR_s _
theorem cmpI_self (x : Int) : cmpI x x = 0 := by unfold cmpI; rw [if_neg (by omega), if_pos rfl]
theorem landI_63 (x : Int) : 0 ≤ landI x 63 := by
  unfold landI
  have e : (Int32.ofInt x &&& Int32.ofInt 63).toInt = ((Int32.ofInt x).toBitVec &&& 63#32).toInt := rfl
  rw [e, BitVec.toInt_eq_toNat_of_lt]
  · omega
  · have := BitVec.toNat_and (Int32.ofInt x).toBitVec 63#32
    rw [this]
    have h2 : (Int32.ofInt x).toBitVec.toNat &&& (63#32).toNat ≤ 63 := Nat.and_le_right
    omega
section Rows7
variable {Γ : Cx} {cc : ByteArray} {own : String} {nL h kC kS : Nat} {K : State → Prop} {kc ks pc : Nat} {ls : List (Nat × AV)} {st : List AV} {Z : Zm} {L : Nat} {xs : Nat → Int32}
theorem a_sld (hΓ : Ok Γ cc own nL h kC kS) (hX : LX Γ L xs) {i : Int} (hd : decode cc pc = .ok (.iaload, 1)) (hi : 0 ≤ i ∧ i < (L : Int)) (k : Wa Γ nL K kc ks (pc + 1) ls (aI (Xi xs i) :: st) Z) : Wa Γ nL K kc ks pc ls (aI i :: aR 1000 :: st) Z := by
  obtain ⟨p, l, e, R, s, m, args, below, meth, cd, g⟩ := Γ
  obtain ⟨hx, hb, hml, hown, hts, hnw, hK, hfr, hlo, hce, hsl, hlk, hgs⟩ := hΓ
  obtain ⟨h1, h2, h3, h4⟩ := hX
  intro H locs lsA hW hl
  obtain ⟨e2, e3⟩ := clamp32 hi h4
  show W p l e R s m args below meth cd H locs kc ks K (F0 m pc lsA (.int (Int32.ofInt i) :: .ref (adr g 1000) :: st.map (cv g)))
  rw [show adr g 1000 = g.2.1 from rfl]
  refine va_sld hx hb h1 h2 (A := Af g) (Nat.not_le.mpr h3) hW.2.2 e3 hd ?_
  rw [e2]
  have hres := k H locs lsA hW hl
  have e : (aI (Xi xs i) :: st).map (cv g) = .int (xs i.toNat) :: st.map (cv g) := by
    show Value.int (Int32.ofInt (Xi xs i)) :: _ = _
    unfold Xi
    rw [Int32.ofInt_toInt]
  rw [e] at hres
  exact hres
theorem a_slen (hΓ : Ok Γ cc own nL h kC kS) (hX : LX Γ L xs) (hd : decode cc pc = .ok (.arraylength, 1)) (k : Wa Γ nL K kc ks (pc + 1) ls (aI (L : Int) :: st) Z) : Wa Γ nL K kc ks pc ls (aR 1000 :: st) Z := by
  obtain ⟨p, l, e, R, s, m, args, below, meth, cd, g⟩ := Γ
  obtain ⟨hx, hb, hml, hown, hts, hnw, hK, hfr, hlo, hce, hsl, hlk, hgs⟩ := hΓ
  obtain ⟨h1, h2, h3, h4⟩ := hX
  intro H locs lsA hW hl
  show W p l e R s m args below meth cd H locs kc ks K (F0 m pc lsA (.ref (adr g 1000) :: st.map (cv g)))
  rw [show adr g 1000 = g.2.1 from rfl]
  refine va_slen hx hb h1 h2 (A := Af g) (Nat.not_le.mpr h3) hW.2.2 hd ?_
  exact k H locs lsA hW hl
end Rows7

def lc_0 (xs : Nat → Int32) (v3 : Int) (M : Mm) (k : Mm → Prop) : Prop :=
  Bd (wX11_table (Xi xs (v3 + 1)) (Xi xs (v3 + 2)) (Xi xs (v3 + 3)) (Xi xs (v3 + 4)) M) (fun r1 M1 =>
  Bd (wX12_table (Xi xs (v3 + 1)) (Xi xs (v3 + 2)) (Xi xs (v3 + 3)) (Xi xs (v3 + 4)) M1) (fun r2 M2 =>
  inR r1 ∧ inR r2 ∧ r1 = r2 ∧ k M2))
set_option maxHeartbeats 4000000 in
theorem s_lc_0 {Γ : Cx} {h kC kS kc ks L : Nat} (hΓ : Ok Γ code RL 4 h kC kS) (hh : 1000 ≤ h) (hkc : kc + 0 ≤ kC ∧ ks + 0 ≤ kS) {xs : Nat → Int32} (hX : LX Γ L xs) (hL : L ≤ 3584) {K : State → Prop} {k : Mm → Prop} {v3 : Int} (hv : 0 ≤ v3 ∧ v3 + 7 ≤ (L : Int)) (hk : ∀ M : Mm, k M → Wa Γ 4 K kc ks 1716 [(0, aR 1000), (1, aR 0), (2, aR 102), (3, aI v3)] [] (NC, RF, M)) (M : Mm) (h1 : lc_0 xs v3 M k) : Wa Γ 4 K kc ks 208 [(0, aR 1000), (1, aR 0), (2, aR 102), (3, aI v3)] [] (NC, RF, M) := by
  unfold lc_0 at h1
  refine a_aload_n hΓ 1 dL_law_208 rfl rfl ?_
  refine a_aload_n hΓ 0 dL_law_209 rfl rfl ?_
  refine a_iload_n hΓ 3 dL_law_210 rfl rfl ?_
  refine a_iconst hΓ dL_law_211 ?_
  refine a_iadd hΓ dL_law_212 ?_
  refine a_sld hΓ hX dL_law_213 ⟨by omega, by omega⟩ ?_
  refine a_aload_n hΓ 0 dL_law_214 rfl rfl ?_
  refine a_iload_n hΓ 3 dL_law_215 rfl rfl ?_
  refine a_iconst hΓ dL_law_216 ?_
  refine a_iadd hΓ dL_law_217 ?_
  refine a_sld hΓ hX dL_law_218 ⟨by omega, by omega⟩ ?_
  refine a_aload_n hΓ 0 dL_law_219 rfl rfl ?_
  refine a_iload_n hΓ 3 dL_law_220 rfl rfl ?_
  refine a_iconst hΓ dL_law_221 ?_
  refine a_iadd hΓ dL_law_222 ?_
  refine a_sld hΓ hX dL_law_223 ⟨by omega, by omega⟩ ?_
  refine a_aload_n hΓ 0 dL_law_224 rfl rfl ?_
  refine a_iload_n hΓ 3 dL_law_225 rfl rfl ?_
  refine a_iconst hΓ dL_law_226 ?_
  refine a_iadd hΓ dL_law_227 ?_
  refine a_sld hΓ hX dL_law_228 ⟨by omega, by omega⟩ ?_
  obtain ⟨P1, q1, h1⟩ := h1
  refine a_callV (c := 0) (av := [aI (Xi xs (v3 + 1)), aI (Xi xs (v3 + 2)), aI (Xi xs (v3 + 3)), aI (Xi xs (v3 + 4))]) (st := []) hΓ (ct_wX11_table _ _ (Xi xs (v3 + 1)) (Xi xs (v3 + 2)) (Xi xs (v3 + 3)) (Xi xs (v3 + 4)) M P1 q1) my_X11_table ml_RL_13 ni_X11_table kd_0 rfl lz_0 rfl (Nat.le_trans (by decide) hh) (by decide) hkc (Nat.le_of_ble_eq_true rfl) rfl dL_law_229 (fun v Z' hq => ?_)
  obtain ⟨r1, M1, rfl, rfl, hq⟩ := hq
  have h1 := h1 r1 M1 hq
  dsimp only at h1
  refine a_aload_n hΓ 2 dL_law_232 rfl rfl ?_
  refine a_aload_n hΓ 0 dL_law_233 rfl rfl ?_
  refine a_iload_n hΓ 3 dL_law_234 rfl rfl ?_
  refine a_iconst hΓ dL_law_235 ?_
  refine a_iadd hΓ dL_law_236 ?_
  refine a_sld hΓ hX dL_law_237 ⟨by omega, by omega⟩ ?_
  refine a_aload_n hΓ 0 dL_law_238 rfl rfl ?_
  refine a_iload_n hΓ 3 dL_law_239 rfl rfl ?_
  refine a_iconst hΓ dL_law_240 ?_
  refine a_iadd hΓ dL_law_241 ?_
  refine a_sld hΓ hX dL_law_242 ⟨by omega, by omega⟩ ?_
  refine a_aload_n hΓ 0 dL_law_243 rfl rfl ?_
  refine a_iload_n hΓ 3 dL_law_244 rfl rfl ?_
  refine a_iconst hΓ dL_law_245 ?_
  refine a_iadd hΓ dL_law_246 ?_
  refine a_sld hΓ hX dL_law_247 ⟨by omega, by omega⟩ ?_
  refine a_aload_n hΓ 0 dL_law_248 rfl rfl ?_
  refine a_iload_n hΓ 3 dL_law_249 rfl rfl ?_
  refine a_iconst hΓ dL_law_250 ?_
  refine a_iadd hΓ dL_law_251 ?_
  refine a_sld hΓ hX dL_law_252 ⟨by omega, by omega⟩ ?_
  obtain ⟨P2, q2, h1⟩ := h1
  refine a_callV (c := 102) (av := [aI (Xi xs (v3 + 1)), aI (Xi xs (v3 + 2)), aI (Xi xs (v3 + 3)), aI (Xi xs (v3 + 4))]) (st := [aI r1]) hΓ (ct_wX12_table _ _ (Xi xs (v3 + 1)) (Xi xs (v3 + 2)) (Xi xs (v3 + 3)) (Xi xs (v3 + 4)) M1 P2 q2) my_X12_table ml_RL_17 ni_X12_table kd_102 rfl lz_102 rfl (Nat.le_trans (by decide) hh) (by decide) hkc (Nat.le_of_ble_eq_true rfl) rfl dL_law_253 (fun v Z' hq => ?_)
  obtain ⟨r2, M2, rfl, rfl, hq⟩ := hq
  have h1 := h1 r2 M2 hq
  dsimp only at h1
  obtain ⟨g1, g2, g3, h1⟩ := h1
  refine a_icmp_eq (tgt := 1716) hΓ g1 g2 dL_law_256 (by decide) (fun _ => ?_) (fun c => absurd g3 c)
  exact hk M2 h1
def lc_1 (xs : Nat → Int32) (v3 : Int) (M : Mm) (k : Mm → Prop) : Prop :=
  Bd (wX11_ship (Xi xs (v3 + 1)) M) (fun r1 M1 =>
  Bd (wX12_ship (Xi xs (v3 + 1)) M1) (fun r2 M2 =>
  inR r1 ∧ inR r2 ∧ r1 = r2 ∧ k M2))
set_option maxHeartbeats 4000000 in
theorem s_lc_1 {Γ : Cx} {h kC kS kc ks L : Nat} (hΓ : Ok Γ code RL 4 h kC kS) (hh : 1000 ≤ h) (hkc : kc + 0 ≤ kC ∧ ks + 0 ≤ kS) {xs : Nat → Int32} (hX : LX Γ L xs) (hL : L ≤ 3584) {K : State → Prop} {k : Mm → Prop} {v3 : Int} (hv : 0 ≤ v3 ∧ v3 + 7 ≤ (L : Int)) (hk : ∀ M : Mm, k M → Wa Γ 4 K kc ks 1716 [(0, aR 1000), (1, aR 0), (2, aR 102), (3, aI v3)] [] (NC, RF, M)) (M : Mm) (h1 : lc_1 xs v3 M k) : Wa Γ 4 K kc ks 261 [(0, aR 1000), (1, aR 0), (2, aR 102), (3, aI v3)] [] (NC, RF, M) := by
  unfold lc_1 at h1
  refine a_aload_n hΓ 1 dL_law_261 rfl rfl ?_
  refine a_aload_n hΓ 0 dL_law_262 rfl rfl ?_
  refine a_iload_n hΓ 3 dL_law_263 rfl rfl ?_
  refine a_iconst hΓ dL_law_264 ?_
  refine a_iadd hΓ dL_law_265 ?_
  refine a_sld hΓ hX dL_law_266 ⟨by omega, by omega⟩ ?_
  obtain ⟨P1, q1, h1⟩ := h1
  refine a_callV (c := 0) (av := [aI (Xi xs (v3 + 1))]) (st := []) hΓ (ct_wX11_ship _ _ (Xi xs (v3 + 1)) M P1 q1) my_X11_ship ml_RL_18 ni_X11_ship kd_0 rfl lz_0 rfl (Nat.le_trans (by decide) hh) (by decide) hkc (Nat.le_of_ble_eq_true rfl) rfl dL_law_267 (fun v Z' hq => ?_)
  obtain ⟨r1, M1, rfl, rfl, hq⟩ := hq
  have h1 := h1 r1 M1 hq
  dsimp only at h1
  refine a_aload_n hΓ 2 dL_law_270 rfl rfl ?_
  refine a_aload_n hΓ 0 dL_law_271 rfl rfl ?_
  refine a_iload_n hΓ 3 dL_law_272 rfl rfl ?_
  refine a_iconst hΓ dL_law_273 ?_
  refine a_iadd hΓ dL_law_274 ?_
  refine a_sld hΓ hX dL_law_275 ⟨by omega, by omega⟩ ?_
  obtain ⟨P2, q2, h1⟩ := h1
  refine a_callV (c := 102) (av := [aI (Xi xs (v3 + 1))]) (st := [aI r1]) hΓ (ct_wX12_ship _ _ (Xi xs (v3 + 1)) M1 P2 q2) my_X12_ship ml_RL_22 ni_X12_ship kd_102 rfl lz_102 rfl (Nat.le_trans (by decide) hh) (by decide) hkc (Nat.le_of_ble_eq_true rfl) rfl dL_law_276 (fun v Z' hq => ?_)
  obtain ⟨r2, M2, rfl, rfl, hq⟩ := hq
  have h1 := h1 r2 M2 hq
  dsimp only at h1
  obtain ⟨g1, g2, g3, h1⟩ := h1
  refine a_icmp_eq (tgt := 1716) hΓ g1 g2 dL_law_279 (by decide) (fun _ => ?_) (fun c => absurd g3 c)
  exact hk M2 h1
def lc_2 (xs : Nat → Int32) (v3 : Int) (M : Mm) (k : Mm → Prop) : Prop :=
  Bd (wX11_leg (Xi xs (v3 + 1)) (Xi xs (v3 + 2)) (Xi xs (v3 + 3)) (Xi xs (v3 + 4)) (Xi xs (v3 + 5)) (Xi xs (v3 + 6)) M) (fun r1 M1 =>
  Bd (wX12_leg (Xi xs (v3 + 1)) (Xi xs (v3 + 2)) (Xi xs (v3 + 3)) (Xi xs (v3 + 4)) (Xi xs (v3 + 5)) (Xi xs (v3 + 6)) M1) (fun r2 M2 =>
  inR r1 ∧ inR r2 ∧ r1 = r2 ∧ k M2))
set_option maxHeartbeats 4000000 in
theorem s_lc_2 {Γ : Cx} {h kC kS kc ks L : Nat} (hΓ : Ok Γ code RL 4 h kC kS) (hh : 1000 ≤ h) (hkc : kc + 0 ≤ kC ∧ ks + 0 ≤ kS) {xs : Nat → Int32} (hX : LX Γ L xs) (hL : L ≤ 3584) {K : State → Prop} {k : Mm → Prop} {v3 : Int} (hv : 0 ≤ v3 ∧ v3 + 7 ≤ (L : Int)) (hk : ∀ M : Mm, k M → Wa Γ 4 K kc ks 1716 [(0, aR 1000), (1, aR 0), (2, aR 102), (3, aI v3)] [] (NC, RF, M)) (M : Mm) (h1 : lc_2 xs v3 M k) : Wa Γ 4 K kc ks 284 [(0, aR 1000), (1, aR 0), (2, aR 102), (3, aI v3)] [] (NC, RF, M) := by
  unfold lc_2 at h1
  refine a_aload_n hΓ 1 dL_law_284 rfl rfl ?_
  refine a_aload_n hΓ 0 dL_law_285 rfl rfl ?_
  refine a_iload_n hΓ 3 dL_law_286 rfl rfl ?_
  refine a_iconst hΓ dL_law_287 ?_
  refine a_iadd hΓ dL_law_288 ?_
  refine a_sld hΓ hX dL_law_289 ⟨by omega, by omega⟩ ?_
  refine a_aload_n hΓ 0 dL_law_290 rfl rfl ?_
  refine a_iload_n hΓ 3 dL_law_291 rfl rfl ?_
  refine a_iconst hΓ dL_law_292 ?_
  refine a_iadd hΓ dL_law_293 ?_
  refine a_sld hΓ hX dL_law_294 ⟨by omega, by omega⟩ ?_
  refine a_aload_n hΓ 0 dL_law_295 rfl rfl ?_
  refine a_iload_n hΓ 3 dL_law_296 rfl rfl ?_
  refine a_iconst hΓ dL_law_297 ?_
  refine a_iadd hΓ dL_law_298 ?_
  refine a_sld hΓ hX dL_law_299 ⟨by omega, by omega⟩ ?_
  refine a_aload_n hΓ 0 dL_law_300 rfl rfl ?_
  refine a_iload_n hΓ 3 dL_law_301 rfl rfl ?_
  refine a_iconst hΓ dL_law_302 ?_
  refine a_iadd hΓ dL_law_303 ?_
  refine a_sld hΓ hX dL_law_304 ⟨by omega, by omega⟩ ?_
  refine a_aload_n hΓ 0 dL_law_305 rfl rfl ?_
  refine a_iload_n hΓ 3 dL_law_306 rfl rfl ?_
  refine a_iconst hΓ dL_law_307 ?_
  refine a_iadd hΓ dL_law_308 ?_
  refine a_sld hΓ hX dL_law_309 ⟨by omega, by omega⟩ ?_
  refine a_aload_n hΓ 0 dL_law_310 rfl rfl ?_
  refine a_iload_n hΓ 3 dL_law_311 rfl rfl ?_
  refine a_bipush hΓ dL_law_312 (by decide) ?_
  refine a_iadd hΓ dL_law_314 ?_
  refine a_sld hΓ hX dL_law_315 ⟨by omega, by omega⟩ ?_
  obtain ⟨P1, q1, h1⟩ := h1
  refine a_callV (c := 0) (av := [aI (Xi xs (v3 + 1)), aI (Xi xs (v3 + 2)), aI (Xi xs (v3 + 3)), aI (Xi xs (v3 + 4)), aI (Xi xs (v3 + 5)), aI (Xi xs (v3 + 6))]) (st := []) hΓ (ct_wX11_leg _ _ (Xi xs (v3 + 1)) (Xi xs (v3 + 2)) (Xi xs (v3 + 3)) (Xi xs (v3 + 4)) (Xi xs (v3 + 5)) (Xi xs (v3 + 6)) M P1 q1) my_X11_leg ml_RL_23 ni_X11_leg kd_0 rfl lz_0 rfl (Nat.le_trans (by decide) hh) (by decide) hkc (Nat.le_of_ble_eq_true rfl) rfl dL_law_316 (fun v Z' hq => ?_)
  obtain ⟨r1, M1, rfl, rfl, hq⟩ := hq
  have h1 := h1 r1 M1 hq
  dsimp only at h1
  refine a_aload_n hΓ 2 dL_law_319 rfl rfl ?_
  refine a_aload_n hΓ 0 dL_law_320 rfl rfl ?_
  refine a_iload_n hΓ 3 dL_law_321 rfl rfl ?_
  refine a_iconst hΓ dL_law_322 ?_
  refine a_iadd hΓ dL_law_323 ?_
  refine a_sld hΓ hX dL_law_324 ⟨by omega, by omega⟩ ?_
  refine a_aload_n hΓ 0 dL_law_325 rfl rfl ?_
  refine a_iload_n hΓ 3 dL_law_326 rfl rfl ?_
  refine a_iconst hΓ dL_law_327 ?_
  refine a_iadd hΓ dL_law_328 ?_
  refine a_sld hΓ hX dL_law_329 ⟨by omega, by omega⟩ ?_
  refine a_aload_n hΓ 0 dL_law_330 rfl rfl ?_
  refine a_iload_n hΓ 3 dL_law_331 rfl rfl ?_
  refine a_iconst hΓ dL_law_332 ?_
  refine a_iadd hΓ dL_law_333 ?_
  refine a_sld hΓ hX dL_law_334 ⟨by omega, by omega⟩ ?_
  refine a_aload_n hΓ 0 dL_law_335 rfl rfl ?_
  refine a_iload_n hΓ 3 dL_law_336 rfl rfl ?_
  refine a_iconst hΓ dL_law_337 ?_
  refine a_iadd hΓ dL_law_338 ?_
  refine a_sld hΓ hX dL_law_339 ⟨by omega, by omega⟩ ?_
  refine a_aload_n hΓ 0 dL_law_340 rfl rfl ?_
  refine a_iload_n hΓ 3 dL_law_341 rfl rfl ?_
  refine a_iconst hΓ dL_law_342 ?_
  refine a_iadd hΓ dL_law_343 ?_
  refine a_sld hΓ hX dL_law_344 ⟨by omega, by omega⟩ ?_
  refine a_aload_n hΓ 0 dL_law_345 rfl rfl ?_
  refine a_iload_n hΓ 3 dL_law_346 rfl rfl ?_
  refine a_bipush hΓ dL_law_347 (by decide) ?_
  refine a_iadd hΓ dL_law_349 ?_
  refine a_sld hΓ hX dL_law_350 ⟨by omega, by omega⟩ ?_
  obtain ⟨P2, q2, h1⟩ := h1
  refine a_callV (c := 102) (av := [aI (Xi xs (v3 + 1)), aI (Xi xs (v3 + 2)), aI (Xi xs (v3 + 3)), aI (Xi xs (v3 + 4)), aI (Xi xs (v3 + 5)), aI (Xi xs (v3 + 6))]) (st := [aI r1]) hΓ (ct_wX12_leg _ _ (Xi xs (v3 + 1)) (Xi xs (v3 + 2)) (Xi xs (v3 + 3)) (Xi xs (v3 + 4)) (Xi xs (v3 + 5)) (Xi xs (v3 + 6)) M1 P2 q2) my_X12_leg ml_RL_27 ni_X12_leg kd_102 rfl lz_102 rfl (Nat.le_trans (by decide) hh) (by decide) hkc (Nat.le_of_ble_eq_true rfl) rfl dL_law_351 (fun v Z' hq => ?_)
  obtain ⟨r2, M2, rfl, rfl, hq⟩ := hq
  have h1 := h1 r2 M2 hq
  dsimp only at h1
  obtain ⟨g1, g2, g3, h1⟩ := h1
  refine a_icmp_eq (tgt := 1716) hΓ g1 g2 dL_law_354 (by decide) (fun _ => ?_) (fun c => absurd g3 c)
  exact hk M2 h1
def lc_3 (xs : Nat → Int32) (v3 : Int) (M : Mm) (k : Mm → Prop) : Prop :=
  Bd (wX11_cleaned (Xi xs (v3 + 1)) (Xi xs (v3 + 2)) (Xi xs (v3 + 3)) M) (fun r1 M1 =>
  Bd (wX12_cleaned (Xi xs (v3 + 1)) (Xi xs (v3 + 2)) (Xi xs (v3 + 3)) M1) (fun r2 M2 =>
  inR r1 ∧ inR r2 ∧ r1 = r2 ∧ k M2))
set_option maxHeartbeats 4000000 in
theorem s_lc_3 {Γ : Cx} {h kC kS kc ks L : Nat} (hΓ : Ok Γ code RL 4 h kC kS) (hh : 1000 ≤ h) (hkc : kc + 0 ≤ kC ∧ ks + 0 ≤ kS) {xs : Nat → Int32} (hX : LX Γ L xs) (hL : L ≤ 3584) {K : State → Prop} {k : Mm → Prop} {v3 : Int} (hv : 0 ≤ v3 ∧ v3 + 7 ≤ (L : Int)) (hk : ∀ M : Mm, k M → Wa Γ 4 K kc ks 1716 [(0, aR 1000), (1, aR 0), (2, aR 102), (3, aI v3)] [] (NC, RF, M)) (M : Mm) (h1 : lc_3 xs v3 M k) : Wa Γ 4 K kc ks 359 [(0, aR 1000), (1, aR 0), (2, aR 102), (3, aI v3)] [] (NC, RF, M) := by
  unfold lc_3 at h1
  refine a_aload_n hΓ 1 dL_law_359 rfl rfl ?_
  refine a_aload_n hΓ 0 dL_law_360 rfl rfl ?_
  refine a_iload_n hΓ 3 dL_law_361 rfl rfl ?_
  refine a_iconst hΓ dL_law_362 ?_
  refine a_iadd hΓ dL_law_363 ?_
  refine a_sld hΓ hX dL_law_364 ⟨by omega, by omega⟩ ?_
  refine a_aload_n hΓ 0 dL_law_365 rfl rfl ?_
  refine a_iload_n hΓ 3 dL_law_366 rfl rfl ?_
  refine a_iconst hΓ dL_law_367 ?_
  refine a_iadd hΓ dL_law_368 ?_
  refine a_sld hΓ hX dL_law_369 ⟨by omega, by omega⟩ ?_
  refine a_aload_n hΓ 0 dL_law_370 rfl rfl ?_
  refine a_iload_n hΓ 3 dL_law_371 rfl rfl ?_
  refine a_iconst hΓ dL_law_372 ?_
  refine a_iadd hΓ dL_law_373 ?_
  refine a_sld hΓ hX dL_law_374 ⟨by omega, by omega⟩ ?_
  obtain ⟨P1, q1, h1⟩ := h1
  refine a_callV (c := 0) (av := [aI (Xi xs (v3 + 1)), aI (Xi xs (v3 + 2)), aI (Xi xs (v3 + 3))]) (st := []) hΓ (ct_wX11_cleaned _ _ (Xi xs (v3 + 1)) (Xi xs (v3 + 2)) (Xi xs (v3 + 3)) M P1 q1) my_X11_cleaned ml_RL_28 ni_X11_cleaned kd_0 rfl lz_0 rfl (Nat.le_trans (by decide) hh) (by decide) hkc (Nat.le_of_ble_eq_true rfl) rfl dL_law_375 (fun v Z' hq => ?_)
  obtain ⟨r1, M1, rfl, rfl, hq⟩ := hq
  have h1 := h1 r1 M1 hq
  dsimp only at h1
  refine a_aload_n hΓ 2 dL_law_378 rfl rfl ?_
  refine a_aload_n hΓ 0 dL_law_379 rfl rfl ?_
  refine a_iload_n hΓ 3 dL_law_380 rfl rfl ?_
  refine a_iconst hΓ dL_law_381 ?_
  refine a_iadd hΓ dL_law_382 ?_
  refine a_sld hΓ hX dL_law_383 ⟨by omega, by omega⟩ ?_
  refine a_aload_n hΓ 0 dL_law_384 rfl rfl ?_
  refine a_iload_n hΓ 3 dL_law_385 rfl rfl ?_
  refine a_iconst hΓ dL_law_386 ?_
  refine a_iadd hΓ dL_law_387 ?_
  refine a_sld hΓ hX dL_law_388 ⟨by omega, by omega⟩ ?_
  refine a_aload_n hΓ 0 dL_law_389 rfl rfl ?_
  refine a_iload_n hΓ 3 dL_law_390 rfl rfl ?_
  refine a_iconst hΓ dL_law_391 ?_
  refine a_iadd hΓ dL_law_392 ?_
  refine a_sld hΓ hX dL_law_393 ⟨by omega, by omega⟩ ?_
  obtain ⟨P2, q2, h1⟩ := h1
  refine a_callV (c := 102) (av := [aI (Xi xs (v3 + 1)), aI (Xi xs (v3 + 2)), aI (Xi xs (v3 + 3))]) (st := [aI r1]) hΓ (ct_wX12_cleaned _ _ (Xi xs (v3 + 1)) (Xi xs (v3 + 2)) (Xi xs (v3 + 3)) M1 P2 q2) my_X12_cleaned ml_RL_32 ni_X12_cleaned kd_102 rfl lz_102 rfl (Nat.le_trans (by decide) hh) (by decide) hkc (Nat.le_of_ble_eq_true rfl) rfl dL_law_394 (fun v Z' hq => ?_)
  obtain ⟨r2, M2, rfl, rfl, hq⟩ := hq
  have h1 := h1 r2 M2 hq
  dsimp only at h1
  obtain ⟨g1, g2, g3, h1⟩ := h1
  refine a_icmp_eq (tgt := 1716) hΓ g1 g2 dL_law_397 (by decide) (fun _ => ?_) (fun c => absurd g3 c)
  exact hk M2 h1
def lc_4 (xs : Nat → Int32) (v3 : Int) (M : Mm) (k : Mm → Prop) : Prop :=
  Bd (wX11_terms (Xi xs (v3 + 1)) (Xi xs (v3 + 2)) M) (fun r1 M1 =>
  Bd (wX12_terms (Xi xs (v3 + 1)) (Xi xs (v3 + 2)) M1) (fun r2 M2 =>
  inR r1 ∧ inR r2 ∧ r1 = r2 ∧ k M2))
set_option maxHeartbeats 4000000 in
theorem s_lc_4 {Γ : Cx} {h kC kS kc ks L : Nat} (hΓ : Ok Γ code RL 4 h kC kS) (hh : 1000 ≤ h) (hkc : kc + 0 ≤ kC ∧ ks + 0 ≤ kS) {xs : Nat → Int32} (hX : LX Γ L xs) (hL : L ≤ 3584) {K : State → Prop} {k : Mm → Prop} {v3 : Int} (hv : 0 ≤ v3 ∧ v3 + 7 ≤ (L : Int)) (hk : ∀ M : Mm, k M → Wa Γ 4 K kc ks 1716 [(0, aR 1000), (1, aR 0), (2, aR 102), (3, aI v3)] [] (NC, RF, M)) (M : Mm) (h1 : lc_4 xs v3 M k) : Wa Γ 4 K kc ks 402 [(0, aR 1000), (1, aR 0), (2, aR 102), (3, aI v3)] [] (NC, RF, M) := by
  unfold lc_4 at h1
  refine a_aload_n hΓ 1 dL_law_402 rfl rfl ?_
  refine a_aload_n hΓ 0 dL_law_403 rfl rfl ?_
  refine a_iload_n hΓ 3 dL_law_404 rfl rfl ?_
  refine a_iconst hΓ dL_law_405 ?_
  refine a_iadd hΓ dL_law_406 ?_
  refine a_sld hΓ hX dL_law_407 ⟨by omega, by omega⟩ ?_
  refine a_aload_n hΓ 0 dL_law_408 rfl rfl ?_
  refine a_iload_n hΓ 3 dL_law_409 rfl rfl ?_
  refine a_iconst hΓ dL_law_410 ?_
  refine a_iadd hΓ dL_law_411 ?_
  refine a_sld hΓ hX dL_law_412 ⟨by omega, by omega⟩ ?_
  obtain ⟨P1, q1, h1⟩ := h1
  refine a_callV (c := 0) (av := [aI (Xi xs (v3 + 1)), aI (Xi xs (v3 + 2))]) (st := []) hΓ (ct_wX11_terms _ _ (Xi xs (v3 + 1)) (Xi xs (v3 + 2)) M P1 q1) my_X11_terms ml_RL_33 ni_X11_terms kd_0 rfl lz_0 rfl (Nat.le_trans (by decide) hh) (by decide) hkc (Nat.le_of_ble_eq_true rfl) rfl dL_law_413 (fun v Z' hq => ?_)
  obtain ⟨r1, M1, rfl, rfl, hq⟩ := hq
  have h1 := h1 r1 M1 hq
  dsimp only at h1
  refine a_aload_n hΓ 2 dL_law_416 rfl rfl ?_
  refine a_aload_n hΓ 0 dL_law_417 rfl rfl ?_
  refine a_iload_n hΓ 3 dL_law_418 rfl rfl ?_
  refine a_iconst hΓ dL_law_419 ?_
  refine a_iadd hΓ dL_law_420 ?_
  refine a_sld hΓ hX dL_law_421 ⟨by omega, by omega⟩ ?_
  refine a_aload_n hΓ 0 dL_law_422 rfl rfl ?_
  refine a_iload_n hΓ 3 dL_law_423 rfl rfl ?_
  refine a_iconst hΓ dL_law_424 ?_
  refine a_iadd hΓ dL_law_425 ?_
  refine a_sld hΓ hX dL_law_426 ⟨by omega, by omega⟩ ?_
  obtain ⟨P2, q2, h1⟩ := h1
  refine a_callV (c := 102) (av := [aI (Xi xs (v3 + 1)), aI (Xi xs (v3 + 2))]) (st := [aI r1]) hΓ (ct_wX12_terms _ _ (Xi xs (v3 + 1)) (Xi xs (v3 + 2)) M1 P2 q2) my_X12_terms ml_RL_37 ni_X12_terms kd_102 rfl lz_102 rfl (Nat.le_trans (by decide) hh) (by decide) hkc (Nat.le_of_ble_eq_true rfl) rfl dL_law_427 (fun v Z' hq => ?_)
  obtain ⟨r2, M2, rfl, rfl, hq⟩ := hq
  have h1 := h1 r2 M2 hq
  dsimp only at h1
  obtain ⟨g1, g2, g3, h1⟩ := h1
  refine a_icmp_eq (tgt := 1716) hΓ g1 g2 dL_law_430 (by decide) (fun _ => ?_) (fun c => absurd g3 c)
  exact hk M2 h1
def lc_5 (xs : Nat → Int32) (v3 : Int) (M : Mm) (k : Mm → Prop) : Prop :=
  Bd (wX11_log (Xi xs (v3 + 1)) (Xi xs (v3 + 2)) (Xi xs (v3 + 3)) (Xi xs (v3 + 4)) (Xi xs (v3 + 5)) (Xi xs (v3 + 6)) M) (fun r1 M1 =>
  Bd (wX12_log (Xi xs (v3 + 1)) (Xi xs (v3 + 2)) (Xi xs (v3 + 3)) (Xi xs (v3 + 4)) (Xi xs (v3 + 5)) (Xi xs (v3 + 6)) M1) (fun r2 M2 =>
  inR r1 ∧ inR r2 ∧ r1 = r2 ∧ k M2))
set_option maxHeartbeats 4000000 in
theorem s_lc_5 {Γ : Cx} {h kC kS kc ks L : Nat} (hΓ : Ok Γ code RL 4 h kC kS) (hh : 1000 ≤ h) (hkc : kc + 0 ≤ kC ∧ ks + 0 ≤ kS) {xs : Nat → Int32} (hX : LX Γ L xs) (hL : L ≤ 3584) {K : State → Prop} {k : Mm → Prop} {v3 : Int} (hv : 0 ≤ v3 ∧ v3 + 7 ≤ (L : Int)) (hk : ∀ M : Mm, k M → Wa Γ 4 K kc ks 1716 [(0, aR 1000), (1, aR 0), (2, aR 102), (3, aI v3)] [] (NC, RF, M)) (M : Mm) (h1 : lc_5 xs v3 M k) : Wa Γ 4 K kc ks 435 [(0, aR 1000), (1, aR 0), (2, aR 102), (3, aI v3)] [] (NC, RF, M) := by
  unfold lc_5 at h1
  refine a_aload_n hΓ 1 dL_law_435 rfl rfl ?_
  refine a_aload_n hΓ 0 dL_law_436 rfl rfl ?_
  refine a_iload_n hΓ 3 dL_law_437 rfl rfl ?_
  refine a_iconst hΓ dL_law_438 ?_
  refine a_iadd hΓ dL_law_439 ?_
  refine a_sld hΓ hX dL_law_440 ⟨by omega, by omega⟩ ?_
  refine a_aload_n hΓ 0 dL_law_441 rfl rfl ?_
  refine a_iload_n hΓ 3 dL_law_442 rfl rfl ?_
  refine a_iconst hΓ dL_law_443 ?_
  refine a_iadd hΓ dL_law_444 ?_
  refine a_sld hΓ hX dL_law_445 ⟨by omega, by omega⟩ ?_
  refine a_aload_n hΓ 0 dL_law_446 rfl rfl ?_
  refine a_iload_n hΓ 3 dL_law_447 rfl rfl ?_
  refine a_iconst hΓ dL_law_448 ?_
  refine a_iadd hΓ dL_law_449 ?_
  refine a_sld hΓ hX dL_law_450 ⟨by omega, by omega⟩ ?_
  refine a_aload_n hΓ 0 dL_law_451 rfl rfl ?_
  refine a_iload_n hΓ 3 dL_law_452 rfl rfl ?_
  refine a_iconst hΓ dL_law_453 ?_
  refine a_iadd hΓ dL_law_454 ?_
  refine a_sld hΓ hX dL_law_455 ⟨by omega, by omega⟩ ?_
  refine a_aload_n hΓ 0 dL_law_456 rfl rfl ?_
  refine a_iload_n hΓ 3 dL_law_457 rfl rfl ?_
  refine a_iconst hΓ dL_law_458 ?_
  refine a_iadd hΓ dL_law_459 ?_
  refine a_sld hΓ hX dL_law_460 ⟨by omega, by omega⟩ ?_
  refine a_aload_n hΓ 0 dL_law_461 rfl rfl ?_
  refine a_iload_n hΓ 3 dL_law_462 rfl rfl ?_
  refine a_bipush hΓ dL_law_463 (by decide) ?_
  refine a_iadd hΓ dL_law_465 ?_
  refine a_sld hΓ hX dL_law_466 ⟨by omega, by omega⟩ ?_
  obtain ⟨P1, q1, h1⟩ := h1
  refine a_callV (c := 0) (av := [aI (Xi xs (v3 + 1)), aI (Xi xs (v3 + 2)), aI (Xi xs (v3 + 3)), aI (Xi xs (v3 + 4)), aI (Xi xs (v3 + 5)), aI (Xi xs (v3 + 6))]) (st := []) hΓ (ct_wX11_log _ _ (Xi xs (v3 + 1)) (Xi xs (v3 + 2)) (Xi xs (v3 + 3)) (Xi xs (v3 + 4)) (Xi xs (v3 + 5)) (Xi xs (v3 + 6)) M P1 q1) my_X11_log ml_RL_38 ni_X11_log kd_0 rfl lz_0 rfl (Nat.le_trans (by decide) hh) (by decide) hkc (Nat.le_of_ble_eq_true rfl) rfl dL_law_467 (fun v Z' hq => ?_)
  obtain ⟨r1, M1, rfl, rfl, hq⟩ := hq
  have h1 := h1 r1 M1 hq
  dsimp only at h1
  refine a_aload_n hΓ 2 dL_law_470 rfl rfl ?_
  refine a_aload_n hΓ 0 dL_law_471 rfl rfl ?_
  refine a_iload_n hΓ 3 dL_law_472 rfl rfl ?_
  refine a_iconst hΓ dL_law_473 ?_
  refine a_iadd hΓ dL_law_474 ?_
  refine a_sld hΓ hX dL_law_475 ⟨by omega, by omega⟩ ?_
  refine a_aload_n hΓ 0 dL_law_476 rfl rfl ?_
  refine a_iload_n hΓ 3 dL_law_477 rfl rfl ?_
  refine a_iconst hΓ dL_law_478 ?_
  refine a_iadd hΓ dL_law_479 ?_
  refine a_sld hΓ hX dL_law_480 ⟨by omega, by omega⟩ ?_
  refine a_aload_n hΓ 0 dL_law_481 rfl rfl ?_
  refine a_iload_n hΓ 3 dL_law_482 rfl rfl ?_
  refine a_iconst hΓ dL_law_483 ?_
  refine a_iadd hΓ dL_law_484 ?_
  refine a_sld hΓ hX dL_law_485 ⟨by omega, by omega⟩ ?_
  refine a_aload_n hΓ 0 dL_law_486 rfl rfl ?_
  refine a_iload_n hΓ 3 dL_law_487 rfl rfl ?_
  refine a_iconst hΓ dL_law_488 ?_
  refine a_iadd hΓ dL_law_489 ?_
  refine a_sld hΓ hX dL_law_490 ⟨by omega, by omega⟩ ?_
  refine a_aload_n hΓ 0 dL_law_491 rfl rfl ?_
  refine a_iload_n hΓ 3 dL_law_492 rfl rfl ?_
  refine a_iconst hΓ dL_law_493 ?_
  refine a_iadd hΓ dL_law_494 ?_
  refine a_sld hΓ hX dL_law_495 ⟨by omega, by omega⟩ ?_
  refine a_aload_n hΓ 0 dL_law_496 rfl rfl ?_
  refine a_iload_n hΓ 3 dL_law_497 rfl rfl ?_
  refine a_bipush hΓ dL_law_498 (by decide) ?_
  refine a_iadd hΓ dL_law_500 ?_
  refine a_sld hΓ hX dL_law_501 ⟨by omega, by omega⟩ ?_
  obtain ⟨P2, q2, h1⟩ := h1
  refine a_callV (c := 102) (av := [aI (Xi xs (v3 + 1)), aI (Xi xs (v3 + 2)), aI (Xi xs (v3 + 3)), aI (Xi xs (v3 + 4)), aI (Xi xs (v3 + 5)), aI (Xi xs (v3 + 6))]) (st := [aI r1]) hΓ (ct_wX12_log _ _ (Xi xs (v3 + 1)) (Xi xs (v3 + 2)) (Xi xs (v3 + 3)) (Xi xs (v3 + 4)) (Xi xs (v3 + 5)) (Xi xs (v3 + 6)) M1 P2 q2) my_X12_log ml_RL_41 ni_X12_log kd_102 rfl lz_102 rfl (Nat.le_trans (by decide) hh) (by decide) hkc (Nat.le_of_ble_eq_true rfl) rfl dL_law_502 (fun v Z' hq => ?_)
  obtain ⟨r2, M2, rfl, rfl, hq⟩ := hq
  have h1 := h1 r2 M2 hq
  dsimp only at h1
  obtain ⟨g1, g2, g3, h1⟩ := h1
  refine a_icmp_eq (tgt := 1716) hΓ g1 g2 dL_law_505 (by decide) (fun _ => ?_) (fun c => absurd g3 c)
  exact hk M2 h1
def lc_6 (xs : Nat → Int32) (v3 : Int) (M : Mm) (k : Mm → Prop) : Prop :=
  Bd (wX11_look (Xi xs (v3 + 1)) (Xi xs (v3 + 2)) (Xi xs (v3 + 3)) (Xi xs (v3 + 4)) (Xi xs (v3 + 5)) (Xi xs (v3 + 6)) M) (fun r1 M1 =>
  Bd (wX12_look (Xi xs (v3 + 1)) (Xi xs (v3 + 2)) (Xi xs (v3 + 3)) (Xi xs (v3 + 4)) (Xi xs (v3 + 5)) (Xi xs (v3 + 6)) M1) (fun r2 M2 =>
  inR r1 ∧ inR r2 ∧ r1 = r2 ∧ k M2))
set_option maxHeartbeats 4000000 in
theorem s_lc_6 {Γ : Cx} {h kC kS kc ks L : Nat} (hΓ : Ok Γ code RL 4 h kC kS) (hh : 1000 ≤ h) (hkc : kc + 0 ≤ kC ∧ ks + 0 ≤ kS) {xs : Nat → Int32} (hX : LX Γ L xs) (hL : L ≤ 3584) {K : State → Prop} {k : Mm → Prop} {v3 : Int} (hv : 0 ≤ v3 ∧ v3 + 7 ≤ (L : Int)) (hk : ∀ M : Mm, k M → Wa Γ 4 K kc ks 1716 [(0, aR 1000), (1, aR 0), (2, aR 102), (3, aI v3)] [] (NC, RF, M)) (M : Mm) (h1 : lc_6 xs v3 M k) : Wa Γ 4 K kc ks 510 [(0, aR 1000), (1, aR 0), (2, aR 102), (3, aI v3)] [] (NC, RF, M) := by
  unfold lc_6 at h1
  refine a_aload_n hΓ 1 dL_law_510 rfl rfl ?_
  refine a_aload_n hΓ 0 dL_law_511 rfl rfl ?_
  refine a_iload_n hΓ 3 dL_law_512 rfl rfl ?_
  refine a_iconst hΓ dL_law_513 ?_
  refine a_iadd hΓ dL_law_514 ?_
  refine a_sld hΓ hX dL_law_515 ⟨by omega, by omega⟩ ?_
  refine a_aload_n hΓ 0 dL_law_516 rfl rfl ?_
  refine a_iload_n hΓ 3 dL_law_517 rfl rfl ?_
  refine a_iconst hΓ dL_law_518 ?_
  refine a_iadd hΓ dL_law_519 ?_
  refine a_sld hΓ hX dL_law_520 ⟨by omega, by omega⟩ ?_
  refine a_aload_n hΓ 0 dL_law_521 rfl rfl ?_
  refine a_iload_n hΓ 3 dL_law_522 rfl rfl ?_
  refine a_iconst hΓ dL_law_523 ?_
  refine a_iadd hΓ dL_law_524 ?_
  refine a_sld hΓ hX dL_law_525 ⟨by omega, by omega⟩ ?_
  refine a_aload_n hΓ 0 dL_law_526 rfl rfl ?_
  refine a_iload_n hΓ 3 dL_law_527 rfl rfl ?_
  refine a_iconst hΓ dL_law_528 ?_
  refine a_iadd hΓ dL_law_529 ?_
  refine a_sld hΓ hX dL_law_530 ⟨by omega, by omega⟩ ?_
  refine a_aload_n hΓ 0 dL_law_531 rfl rfl ?_
  refine a_iload_n hΓ 3 dL_law_532 rfl rfl ?_
  refine a_iconst hΓ dL_law_533 ?_
  refine a_iadd hΓ dL_law_534 ?_
  refine a_sld hΓ hX dL_law_535 ⟨by omega, by omega⟩ ?_
  refine a_aload_n hΓ 0 dL_law_536 rfl rfl ?_
  refine a_iload_n hΓ 3 dL_law_537 rfl rfl ?_
  refine a_bipush hΓ dL_law_538 (by decide) ?_
  refine a_iadd hΓ dL_law_540 ?_
  refine a_sld hΓ hX dL_law_541 ⟨by omega, by omega⟩ ?_
  obtain ⟨P1, q1, h1⟩ := h1
  refine a_callV (c := 0) (av := [aI (Xi xs (v3 + 1)), aI (Xi xs (v3 + 2)), aI (Xi xs (v3 + 3)), aI (Xi xs (v3 + 4)), aI (Xi xs (v3 + 5)), aI (Xi xs (v3 + 6))]) (st := []) hΓ (ct_wX11_look _ _ (Xi xs (v3 + 1)) (Xi xs (v3 + 2)) (Xi xs (v3 + 3)) (Xi xs (v3 + 4)) (Xi xs (v3 + 5)) (Xi xs (v3 + 6)) M P1 q1) my_X11_look ml_RL_42 ni_X11_look kd_0 rfl lz_0 rfl (Nat.le_trans (by decide) hh) (by decide) hkc (Nat.le_of_ble_eq_true rfl) rfl dL_law_542 (fun v Z' hq => ?_)
  obtain ⟨r1, M1, rfl, rfl, hq⟩ := hq
  have h1 := h1 r1 M1 hq
  dsimp only at h1
  refine a_aload_n hΓ 2 dL_law_545 rfl rfl ?_
  refine a_aload_n hΓ 0 dL_law_546 rfl rfl ?_
  refine a_iload_n hΓ 3 dL_law_547 rfl rfl ?_
  refine a_iconst hΓ dL_law_548 ?_
  refine a_iadd hΓ dL_law_549 ?_
  refine a_sld hΓ hX dL_law_550 ⟨by omega, by omega⟩ ?_
  refine a_aload_n hΓ 0 dL_law_551 rfl rfl ?_
  refine a_iload_n hΓ 3 dL_law_552 rfl rfl ?_
  refine a_iconst hΓ dL_law_553 ?_
  refine a_iadd hΓ dL_law_554 ?_
  refine a_sld hΓ hX dL_law_555 ⟨by omega, by omega⟩ ?_
  refine a_aload_n hΓ 0 dL_law_556 rfl rfl ?_
  refine a_iload_n hΓ 3 dL_law_557 rfl rfl ?_
  refine a_iconst hΓ dL_law_558 ?_
  refine a_iadd hΓ dL_law_559 ?_
  refine a_sld hΓ hX dL_law_560 ⟨by omega, by omega⟩ ?_
  refine a_aload_n hΓ 0 dL_law_561 rfl rfl ?_
  refine a_iload_n hΓ 3 dL_law_562 rfl rfl ?_
  refine a_iconst hΓ dL_law_563 ?_
  refine a_iadd hΓ dL_law_564 ?_
  refine a_sld hΓ hX dL_law_565 ⟨by omega, by omega⟩ ?_
  refine a_aload_n hΓ 0 dL_law_566 rfl rfl ?_
  refine a_iload_n hΓ 3 dL_law_567 rfl rfl ?_
  refine a_iconst hΓ dL_law_568 ?_
  refine a_iadd hΓ dL_law_569 ?_
  refine a_sld hΓ hX dL_law_570 ⟨by omega, by omega⟩ ?_
  refine a_aload_n hΓ 0 dL_law_571 rfl rfl ?_
  refine a_iload_n hΓ 3 dL_law_572 rfl rfl ?_
  refine a_bipush hΓ dL_law_573 (by decide) ?_
  refine a_iadd hΓ dL_law_575 ?_
  refine a_sld hΓ hX dL_law_576 ⟨by omega, by omega⟩ ?_
  obtain ⟨P2, q2, h1⟩ := h1
  refine a_callV (c := 102) (av := [aI (Xi xs (v3 + 1)), aI (Xi xs (v3 + 2)), aI (Xi xs (v3 + 3)), aI (Xi xs (v3 + 4)), aI (Xi xs (v3 + 5)), aI (Xi xs (v3 + 6))]) (st := [aI r1]) hΓ (ct_wX12_look _ _ (Xi xs (v3 + 1)) (Xi xs (v3 + 2)) (Xi xs (v3 + 3)) (Xi xs (v3 + 4)) (Xi xs (v3 + 5)) (Xi xs (v3 + 6)) M1 P2 q2) my_X12_look ml_RL_45 ni_X12_look kd_102 rfl lz_102 rfl (Nat.le_trans (by decide) hh) (by decide) hkc (Nat.le_of_ble_eq_true rfl) rfl dL_law_577 (fun v Z' hq => ?_)
  obtain ⟨r2, M2, rfl, rfl, hq⟩ := hq
  have h1 := h1 r2 M2 hq
  dsimp only at h1
  obtain ⟨g1, g2, g3, h1⟩ := h1
  refine a_icmp_eq (tgt := 1716) hΓ g1 g2 dL_law_580 (by decide) (fun _ => ?_) (fun c => absurd g3 c)
  exact hk M2 h1
def lc_7 (xs : Nat → Int32) (v3 : Int) (M : Mm) (k : Mm → Prop) : Prop :=
  Bd (wX11_of (Xi xs (v3 + 1)) (Xi xs (v3 + 2)) M) (fun r1 M1 =>
  Bd (wX12_of (Xi xs (v3 + 1)) (Xi xs (v3 + 2)) M1) (fun r2 M2 =>
  inR r1 ∧ inR r2 ∧ r1 = r2 ∧ k M2))
set_option maxHeartbeats 4000000 in
theorem s_lc_7 {Γ : Cx} {h kC kS kc ks L : Nat} (hΓ : Ok Γ code RL 4 h kC kS) (hh : 1000 ≤ h) (hkc : kc + 0 ≤ kC ∧ ks + 0 ≤ kS) {xs : Nat → Int32} (hX : LX Γ L xs) (hL : L ≤ 3584) {K : State → Prop} {k : Mm → Prop} {v3 : Int} (hv : 0 ≤ v3 ∧ v3 + 7 ≤ (L : Int)) (hk : ∀ M : Mm, k M → Wa Γ 4 K kc ks 1716 [(0, aR 1000), (1, aR 0), (2, aR 102), (3, aI v3)] [] (NC, RF, M)) (M : Mm) (h1 : lc_7 xs v3 M k) : Wa Γ 4 K kc ks 585 [(0, aR 1000), (1, aR 0), (2, aR 102), (3, aI v3)] [] (NC, RF, M) := by
  unfold lc_7 at h1
  refine a_aload_n hΓ 1 dL_law_585 rfl rfl ?_
  refine a_aload_n hΓ 0 dL_law_586 rfl rfl ?_
  refine a_iload_n hΓ 3 dL_law_587 rfl rfl ?_
  refine a_iconst hΓ dL_law_588 ?_
  refine a_iadd hΓ dL_law_589 ?_
  refine a_sld hΓ hX dL_law_590 ⟨by omega, by omega⟩ ?_
  refine a_aload_n hΓ 0 dL_law_591 rfl rfl ?_
  refine a_iload_n hΓ 3 dL_law_592 rfl rfl ?_
  refine a_iconst hΓ dL_law_593 ?_
  refine a_iadd hΓ dL_law_594 ?_
  refine a_sld hΓ hX dL_law_595 ⟨by omega, by omega⟩ ?_
  obtain ⟨P1, q1, h1⟩ := h1
  refine a_callV (c := 0) (av := [aI (Xi xs (v3 + 1)), aI (Xi xs (v3 + 2))]) (st := []) hΓ (ct_wX11_of _ _ (Xi xs (v3 + 1)) (Xi xs (v3 + 2)) M P1 q1) my_X11_of ml_RL_46 ni_X11_of kd_0 rfl lz_0 rfl (Nat.le_trans (by decide) hh) (by decide) hkc (Nat.le_of_ble_eq_true rfl) rfl dL_law_596 (fun v Z' hq => ?_)
  obtain ⟨r1, M1, rfl, rfl, hq⟩ := hq
  have h1 := h1 r1 M1 hq
  dsimp only at h1
  refine a_aload_n hΓ 2 dL_law_599 rfl rfl ?_
  refine a_aload_n hΓ 0 dL_law_600 rfl rfl ?_
  refine a_iload_n hΓ 3 dL_law_601 rfl rfl ?_
  refine a_iconst hΓ dL_law_602 ?_
  refine a_iadd hΓ dL_law_603 ?_
  refine a_sld hΓ hX dL_law_604 ⟨by omega, by omega⟩ ?_
  refine a_aload_n hΓ 0 dL_law_605 rfl rfl ?_
  refine a_iload_n hΓ 3 dL_law_606 rfl rfl ?_
  refine a_iconst hΓ dL_law_607 ?_
  refine a_iadd hΓ dL_law_608 ?_
  refine a_sld hΓ hX dL_law_609 ⟨by omega, by omega⟩ ?_
  obtain ⟨P2, q2, h1⟩ := h1
  refine a_callV (c := 102) (av := [aI (Xi xs (v3 + 1)), aI (Xi xs (v3 + 2))]) (st := [aI r1]) hΓ (ct_wX12_of _ _ (Xi xs (v3 + 1)) (Xi xs (v3 + 2)) M1 P2 q2) my_X12_of ml_RL_49 ni_X12_of kd_102 rfl lz_102 rfl (Nat.le_trans (by decide) hh) (by decide) hkc (Nat.le_of_ble_eq_true rfl) rfl dL_law_610 (fun v Z' hq => ?_)
  obtain ⟨r2, M2, rfl, rfl, hq⟩ := hq
  have h1 := h1 r2 M2 hq
  dsimp only at h1
  obtain ⟨g1, g2, g3, h1⟩ := h1
  refine a_icmp_eq (tgt := 1716) hΓ g1 g2 dL_law_613 (by decide) (fun _ => ?_) (fun c => absurd g3 c)
  exact hk M2 h1
def lc_8 (xs : Nat → Int32) (v3 : Int) (M : Mm) (k : Mm → Prop) : Prop :=
  Bd (wX11_leave (Xi xs (v3 + 1)) (Xi xs (v3 + 2)) M) (fun r1 M1 =>
  Bd (wX12_leave (Xi xs (v3 + 1)) (Xi xs (v3 + 2)) M1) (fun r2 M2 =>
  inR r1 ∧ inR r2 ∧ r1 = r2 ∧ k M2))
set_option maxHeartbeats 4000000 in
theorem s_lc_8 {Γ : Cx} {h kC kS kc ks L : Nat} (hΓ : Ok Γ code RL 4 h kC kS) (hh : 1000 ≤ h) (hkc : kc + 0 ≤ kC ∧ ks + 0 ≤ kS) {xs : Nat → Int32} (hX : LX Γ L xs) (hL : L ≤ 3584) {K : State → Prop} {k : Mm → Prop} {v3 : Int} (hv : 0 ≤ v3 ∧ v3 + 7 ≤ (L : Int)) (hk : ∀ M : Mm, k M → Wa Γ 4 K kc ks 1716 [(0, aR 1000), (1, aR 0), (2, aR 102), (3, aI v3)] [] (NC, RF, M)) (M : Mm) (h1 : lc_8 xs v3 M k) : Wa Γ 4 K kc ks 618 [(0, aR 1000), (1, aR 0), (2, aR 102), (3, aI v3)] [] (NC, RF, M) := by
  unfold lc_8 at h1
  refine a_aload_n hΓ 1 dL_law_618 rfl rfl ?_
  refine a_aload_n hΓ 0 dL_law_619 rfl rfl ?_
  refine a_iload_n hΓ 3 dL_law_620 rfl rfl ?_
  refine a_iconst hΓ dL_law_621 ?_
  refine a_iadd hΓ dL_law_622 ?_
  refine a_sld hΓ hX dL_law_623 ⟨by omega, by omega⟩ ?_
  refine a_aload_n hΓ 0 dL_law_624 rfl rfl ?_
  refine a_iload_n hΓ 3 dL_law_625 rfl rfl ?_
  refine a_iconst hΓ dL_law_626 ?_
  refine a_iadd hΓ dL_law_627 ?_
  refine a_sld hΓ hX dL_law_628 ⟨by omega, by omega⟩ ?_
  obtain ⟨P1, q1, h1⟩ := h1
  refine a_callV (c := 0) (av := [aI (Xi xs (v3 + 1)), aI (Xi xs (v3 + 2))]) (st := []) hΓ (ct_wX11_leave _ _ (Xi xs (v3 + 1)) (Xi xs (v3 + 2)) M P1 q1) my_X11_leave ml_RL_50 ni_X11_leave kd_0 rfl lz_0 rfl (Nat.le_trans (by decide) hh) (by decide) hkc (Nat.le_of_ble_eq_true rfl) rfl dL_law_629 (fun v Z' hq => ?_)
  obtain ⟨r1, M1, rfl, rfl, hq⟩ := hq
  have h1 := h1 r1 M1 hq
  dsimp only at h1
  refine a_aload_n hΓ 2 dL_law_632 rfl rfl ?_
  refine a_aload_n hΓ 0 dL_law_633 rfl rfl ?_
  refine a_iload_n hΓ 3 dL_law_634 rfl rfl ?_
  refine a_iconst hΓ dL_law_635 ?_
  refine a_iadd hΓ dL_law_636 ?_
  refine a_sld hΓ hX dL_law_637 ⟨by omega, by omega⟩ ?_
  refine a_aload_n hΓ 0 dL_law_638 rfl rfl ?_
  refine a_iload_n hΓ 3 dL_law_639 rfl rfl ?_
  refine a_iconst hΓ dL_law_640 ?_
  refine a_iadd hΓ dL_law_641 ?_
  refine a_sld hΓ hX dL_law_642 ⟨by omega, by omega⟩ ?_
  obtain ⟨P2, q2, h1⟩ := h1
  refine a_callV (c := 102) (av := [aI (Xi xs (v3 + 1)), aI (Xi xs (v3 + 2))]) (st := [aI r1]) hΓ (ct_wX12_leave _ _ (Xi xs (v3 + 1)) (Xi xs (v3 + 2)) M1 P2 q2) my_X12_leave ml_RL_53 ni_X12_leave kd_102 rfl lz_102 rfl (Nat.le_trans (by decide) hh) (by decide) hkc (Nat.le_of_ble_eq_true rfl) rfl dL_law_643 (fun v Z' hq => ?_)
  obtain ⟨r2, M2, rfl, rfl, hq⟩ := hq
  have h1 := h1 r2 M2 hq
  dsimp only at h1
  obtain ⟨g1, g2, g3, h1⟩ := h1
  refine a_icmp_eq (tgt := 1716) hΓ g1 g2 dL_law_646 (by decide) (fun _ => ?_) (fun c => absurd g3 c)
  exact hk M2 h1
def lc_9 (xs : Nat → Int32) (v3 : Int) (M : Mm) (k : Mm → Prop) : Prop :=
  Bd (wX11_law (Xi xs (v3 + 1)) (Xi xs (v3 + 2)) (Xi xs (v3 + 3)) M) (fun r1 M1 =>
  Bd (wX12_law (Xi xs (v3 + 1)) (Xi xs (v3 + 2)) (Xi xs (v3 + 3)) M1) (fun r2 M2 =>
  inR r1 ∧ inR r2 ∧ r1 = r2 ∧ k M2))
set_option maxHeartbeats 4000000 in
theorem s_lc_9 {Γ : Cx} {h kC kS kc ks L : Nat} (hΓ : Ok Γ code RL 4 h kC kS) (hh : 1000 ≤ h) (hkc : kc + 0 ≤ kC ∧ ks + 0 ≤ kS) {xs : Nat → Int32} (hX : LX Γ L xs) (hL : L ≤ 3584) {K : State → Prop} {k : Mm → Prop} {v3 : Int} (hv : 0 ≤ v3 ∧ v3 + 7 ≤ (L : Int)) (hk : ∀ M : Mm, k M → Wa Γ 4 K kc ks 1716 [(0, aR 1000), (1, aR 0), (2, aR 102), (3, aI v3)] [] (NC, RF, M)) (M : Mm) (h1 : lc_9 xs v3 M k) : Wa Γ 4 K kc ks 651 [(0, aR 1000), (1, aR 0), (2, aR 102), (3, aI v3)] [] (NC, RF, M) := by
  unfold lc_9 at h1
  refine a_aload_n hΓ 1 dL_law_651 rfl rfl ?_
  refine a_aload_n hΓ 0 dL_law_652 rfl rfl ?_
  refine a_iload_n hΓ 3 dL_law_653 rfl rfl ?_
  refine a_iconst hΓ dL_law_654 ?_
  refine a_iadd hΓ dL_law_655 ?_
  refine a_sld hΓ hX dL_law_656 ⟨by omega, by omega⟩ ?_
  refine a_aload_n hΓ 0 dL_law_657 rfl rfl ?_
  refine a_iload_n hΓ 3 dL_law_658 rfl rfl ?_
  refine a_iconst hΓ dL_law_659 ?_
  refine a_iadd hΓ dL_law_660 ?_
  refine a_sld hΓ hX dL_law_661 ⟨by omega, by omega⟩ ?_
  refine a_aload_n hΓ 0 dL_law_662 rfl rfl ?_
  refine a_iload_n hΓ 3 dL_law_663 rfl rfl ?_
  refine a_iconst hΓ dL_law_664 ?_
  refine a_iadd hΓ dL_law_665 ?_
  refine a_sld hΓ hX dL_law_666 ⟨by omega, by omega⟩ ?_
  obtain ⟨P1, q1, h1⟩ := h1
  refine a_callV (c := 0) (av := [aI (Xi xs (v3 + 1)), aI (Xi xs (v3 + 2)), aI (Xi xs (v3 + 3))]) (st := []) hΓ (ct_wX11_law _ _ (Xi xs (v3 + 1)) (Xi xs (v3 + 2)) (Xi xs (v3 + 3)) M P1 q1) my_X11_law ml_RL_54 ni_X11_law kd_0 rfl lz_0 rfl (Nat.le_trans (by decide) hh) (by decide) hkc (Nat.le_of_ble_eq_true rfl) rfl dL_law_667 (fun v Z' hq => ?_)
  obtain ⟨r1, M1, rfl, rfl, hq⟩ := hq
  have h1 := h1 r1 M1 hq
  dsimp only at h1
  refine a_aload_n hΓ 2 dL_law_670 rfl rfl ?_
  refine a_aload_n hΓ 0 dL_law_671 rfl rfl ?_
  refine a_iload_n hΓ 3 dL_law_672 rfl rfl ?_
  refine a_iconst hΓ dL_law_673 ?_
  refine a_iadd hΓ dL_law_674 ?_
  refine a_sld hΓ hX dL_law_675 ⟨by omega, by omega⟩ ?_
  refine a_aload_n hΓ 0 dL_law_676 rfl rfl ?_
  refine a_iload_n hΓ 3 dL_law_677 rfl rfl ?_
  refine a_iconst hΓ dL_law_678 ?_
  refine a_iadd hΓ dL_law_679 ?_
  refine a_sld hΓ hX dL_law_680 ⟨by omega, by omega⟩ ?_
  refine a_aload_n hΓ 0 dL_law_681 rfl rfl ?_
  refine a_iload_n hΓ 3 dL_law_682 rfl rfl ?_
  refine a_iconst hΓ dL_law_683 ?_
  refine a_iadd hΓ dL_law_684 ?_
  refine a_sld hΓ hX dL_law_685 ⟨by omega, by omega⟩ ?_
  obtain ⟨P2, q2, h1⟩ := h1
  refine a_callV (c := 102) (av := [aI (Xi xs (v3 + 1)), aI (Xi xs (v3 + 2)), aI (Xi xs (v3 + 3))]) (st := [aI r1]) hΓ (ct_wX12_law _ _ (Xi xs (v3 + 1)) (Xi xs (v3 + 2)) (Xi xs (v3 + 3)) M1 P2 q2) my_X12_law ml_RL_57 ni_X12_law kd_102 rfl lz_102 rfl (Nat.le_trans (by decide) hh) (by decide) hkc (Nat.le_of_ble_eq_true rfl) rfl dL_law_686 (fun v Z' hq => ?_)
  obtain ⟨r2, M2, rfl, rfl, hq⟩ := hq
  have h1 := h1 r2 M2 hq
  dsimp only at h1
  obtain ⟨g1, g2, g3, h1⟩ := h1
  refine a_icmp_eq (tgt := 1716) hΓ g1 g2 dL_law_689 (by decide) (fun _ => ?_) (fun c => absurd g3 c)
  exact hk M2 h1
def lc_10 (xs : Nat → Int32) (v3 : Int) (M : Mm) (k : Mm → Prop) : Prop :=
  Bd (wX11_share (Xi xs (v3 + 1)) (Xi xs (v3 + 2)) (Xi xs (v3 + 3)) (Xi xs (v3 + 4)) M) (fun r1 M1 =>
  Bd (wX12_share (Xi xs (v3 + 1)) (Xi xs (v3 + 2)) (Xi xs (v3 + 3)) (Xi xs (v3 + 4)) M1) (fun r2 M2 =>
  inR r1 ∧ inR r2 ∧ r1 = r2 ∧ k M2))
set_option maxHeartbeats 4000000 in
theorem s_lc_10 {Γ : Cx} {h kC kS kc ks L : Nat} (hΓ : Ok Γ code RL 4 h kC kS) (hh : 1000 ≤ h) (hkc : kc + 0 ≤ kC ∧ ks + 0 ≤ kS) {xs : Nat → Int32} (hX : LX Γ L xs) (hL : L ≤ 3584) {K : State → Prop} {k : Mm → Prop} {v3 : Int} (hv : 0 ≤ v3 ∧ v3 + 7 ≤ (L : Int)) (hk : ∀ M : Mm, k M → Wa Γ 4 K kc ks 1716 [(0, aR 1000), (1, aR 0), (2, aR 102), (3, aI v3)] [] (NC, RF, M)) (M : Mm) (h1 : lc_10 xs v3 M k) : Wa Γ 4 K kc ks 694 [(0, aR 1000), (1, aR 0), (2, aR 102), (3, aI v3)] [] (NC, RF, M) := by
  unfold lc_10 at h1
  refine a_aload_n hΓ 1 dL_law_694 rfl rfl ?_
  refine a_aload_n hΓ 0 dL_law_695 rfl rfl ?_
  refine a_iload_n hΓ 3 dL_law_696 rfl rfl ?_
  refine a_iconst hΓ dL_law_697 ?_
  refine a_iadd hΓ dL_law_698 ?_
  refine a_sld hΓ hX dL_law_699 ⟨by omega, by omega⟩ ?_
  refine a_aload_n hΓ 0 dL_law_700 rfl rfl ?_
  refine a_iload_n hΓ 3 dL_law_701 rfl rfl ?_
  refine a_iconst hΓ dL_law_702 ?_
  refine a_iadd hΓ dL_law_703 ?_
  refine a_sld hΓ hX dL_law_704 ⟨by omega, by omega⟩ ?_
  refine a_aload_n hΓ 0 dL_law_705 rfl rfl ?_
  refine a_iload_n hΓ 3 dL_law_706 rfl rfl ?_
  refine a_iconst hΓ dL_law_707 ?_
  refine a_iadd hΓ dL_law_708 ?_
  refine a_sld hΓ hX dL_law_709 ⟨by omega, by omega⟩ ?_
  refine a_aload_n hΓ 0 dL_law_710 rfl rfl ?_
  refine a_iload_n hΓ 3 dL_law_711 rfl rfl ?_
  refine a_iconst hΓ dL_law_712 ?_
  refine a_iadd hΓ dL_law_713 ?_
  refine a_sld hΓ hX dL_law_714 ⟨by omega, by omega⟩ ?_
  obtain ⟨P1, q1, h1⟩ := h1
  refine a_callV (c := 0) (av := [aI (Xi xs (v3 + 1)), aI (Xi xs (v3 + 2)), aI (Xi xs (v3 + 3)), aI (Xi xs (v3 + 4))]) (st := []) hΓ (ct_wX11_share _ _ (Xi xs (v3 + 1)) (Xi xs (v3 + 2)) (Xi xs (v3 + 3)) (Xi xs (v3 + 4)) M P1 q1) my_X11_share ml_RL_58 ni_X11_share kd_0 rfl lz_0 rfl (Nat.le_trans (by decide) hh) (by decide) hkc (Nat.le_of_ble_eq_true rfl) rfl dL_law_715 (fun v Z' hq => ?_)
  obtain ⟨r1, M1, rfl, rfl, hq⟩ := hq
  have h1 := h1 r1 M1 hq
  dsimp only at h1
  refine a_aload_n hΓ 2 dL_law_718 rfl rfl ?_
  refine a_aload_n hΓ 0 dL_law_719 rfl rfl ?_
  refine a_iload_n hΓ 3 dL_law_720 rfl rfl ?_
  refine a_iconst hΓ dL_law_721 ?_
  refine a_iadd hΓ dL_law_722 ?_
  refine a_sld hΓ hX dL_law_723 ⟨by omega, by omega⟩ ?_
  refine a_aload_n hΓ 0 dL_law_724 rfl rfl ?_
  refine a_iload_n hΓ 3 dL_law_725 rfl rfl ?_
  refine a_iconst hΓ dL_law_726 ?_
  refine a_iadd hΓ dL_law_727 ?_
  refine a_sld hΓ hX dL_law_728 ⟨by omega, by omega⟩ ?_
  refine a_aload_n hΓ 0 dL_law_729 rfl rfl ?_
  refine a_iload_n hΓ 3 dL_law_730 rfl rfl ?_
  refine a_iconst hΓ dL_law_731 ?_
  refine a_iadd hΓ dL_law_732 ?_
  refine a_sld hΓ hX dL_law_733 ⟨by omega, by omega⟩ ?_
  refine a_aload_n hΓ 0 dL_law_734 rfl rfl ?_
  refine a_iload_n hΓ 3 dL_law_735 rfl rfl ?_
  refine a_iconst hΓ dL_law_736 ?_
  refine a_iadd hΓ dL_law_737 ?_
  refine a_sld hΓ hX dL_law_738 ⟨by omega, by omega⟩ ?_
  obtain ⟨P2, q2, h1⟩ := h1
  refine a_callV (c := 102) (av := [aI (Xi xs (v3 + 1)), aI (Xi xs (v3 + 2)), aI (Xi xs (v3 + 3)), aI (Xi xs (v3 + 4))]) (st := [aI r1]) hΓ (ct_wX12_share _ _ (Xi xs (v3 + 1)) (Xi xs (v3 + 2)) (Xi xs (v3 + 3)) (Xi xs (v3 + 4)) M1 P2 q2) my_X12_share ml_RL_61 ni_X12_share kd_102 rfl lz_102 rfl (Nat.le_trans (by decide) hh) (by decide) hkc (Nat.le_of_ble_eq_true rfl) rfl dL_law_739 (fun v Z' hq => ?_)
  obtain ⟨r2, M2, rfl, rfl, hq⟩ := hq
  have h1 := h1 r2 M2 hq
  dsimp only at h1
  obtain ⟨g1, g2, g3, h1⟩ := h1
  refine a_icmp_eq (tgt := 1716) hΓ g1 g2 dL_law_742 (by decide) (fun _ => ?_) (fun c => absurd g3 c)
  exact hk M2 h1
def lc_11 (xs : Nat → Int32) (v3 : Int) (M : Mm) (k : Mm → Prop) : Prop :=
  Bd (wX11_span (Xi xs (v3 + 1)) (Xi xs (v3 + 2)) (Xi xs (v3 + 3)) (Xi xs (v3 + 4)) M) (fun r1 M1 =>
  Bd (wX12_span (Xi xs (v3 + 1)) (Xi xs (v3 + 2)) (Xi xs (v3 + 3)) (Xi xs (v3 + 4)) M1) (fun r2 M2 =>
  inR r1 ∧ inR r2 ∧ r1 = r2 ∧ k M2))
set_option maxHeartbeats 4000000 in
theorem s_lc_11 {Γ : Cx} {h kC kS kc ks L : Nat} (hΓ : Ok Γ code RL 4 h kC kS) (hh : 1000 ≤ h) (hkc : kc + 0 ≤ kC ∧ ks + 0 ≤ kS) {xs : Nat → Int32} (hX : LX Γ L xs) (hL : L ≤ 3584) {K : State → Prop} {k : Mm → Prop} {v3 : Int} (hv : 0 ≤ v3 ∧ v3 + 7 ≤ (L : Int)) (hk : ∀ M : Mm, k M → Wa Γ 4 K kc ks 1716 [(0, aR 1000), (1, aR 0), (2, aR 102), (3, aI v3)] [] (NC, RF, M)) (M : Mm) (h1 : lc_11 xs v3 M k) : Wa Γ 4 K kc ks 747 [(0, aR 1000), (1, aR 0), (2, aR 102), (3, aI v3)] [] (NC, RF, M) := by
  unfold lc_11 at h1
  refine a_aload_n hΓ 1 dL_law_747 rfl rfl ?_
  refine a_aload_n hΓ 0 dL_law_748 rfl rfl ?_
  refine a_iload_n hΓ 3 dL_law_749 rfl rfl ?_
  refine a_iconst hΓ dL_law_750 ?_
  refine a_iadd hΓ dL_law_751 ?_
  refine a_sld hΓ hX dL_law_752 ⟨by omega, by omega⟩ ?_
  refine a_aload_n hΓ 0 dL_law_753 rfl rfl ?_
  refine a_iload_n hΓ 3 dL_law_754 rfl rfl ?_
  refine a_iconst hΓ dL_law_755 ?_
  refine a_iadd hΓ dL_law_756 ?_
  refine a_sld hΓ hX dL_law_757 ⟨by omega, by omega⟩ ?_
  refine a_aload_n hΓ 0 dL_law_758 rfl rfl ?_
  refine a_iload_n hΓ 3 dL_law_759 rfl rfl ?_
  refine a_iconst hΓ dL_law_760 ?_
  refine a_iadd hΓ dL_law_761 ?_
  refine a_sld hΓ hX dL_law_762 ⟨by omega, by omega⟩ ?_
  refine a_aload_n hΓ 0 dL_law_763 rfl rfl ?_
  refine a_iload_n hΓ 3 dL_law_764 rfl rfl ?_
  refine a_iconst hΓ dL_law_765 ?_
  refine a_iadd hΓ dL_law_766 ?_
  refine a_sld hΓ hX dL_law_767 ⟨by omega, by omega⟩ ?_
  obtain ⟨P1, q1, h1⟩ := h1
  refine a_callV (c := 0) (av := [aI (Xi xs (v3 + 1)), aI (Xi xs (v3 + 2)), aI (Xi xs (v3 + 3)), aI (Xi xs (v3 + 4))]) (st := []) hΓ (ct_wX11_span _ _ (Xi xs (v3 + 1)) (Xi xs (v3 + 2)) (Xi xs (v3 + 3)) (Xi xs (v3 + 4)) M P1 q1) my_X11_span ml_RL_62 ni_X11_span kd_0 rfl lz_0 rfl (Nat.le_trans (by decide) hh) (by decide) hkc (Nat.le_of_ble_eq_true rfl) rfl dL_law_768 (fun v Z' hq => ?_)
  obtain ⟨r1, M1, rfl, rfl, hq⟩ := hq
  have h1 := h1 r1 M1 hq
  dsimp only at h1
  refine a_aload_n hΓ 2 dL_law_771 rfl rfl ?_
  refine a_aload_n hΓ 0 dL_law_772 rfl rfl ?_
  refine a_iload_n hΓ 3 dL_law_773 rfl rfl ?_
  refine a_iconst hΓ dL_law_774 ?_
  refine a_iadd hΓ dL_law_775 ?_
  refine a_sld hΓ hX dL_law_776 ⟨by omega, by omega⟩ ?_
  refine a_aload_n hΓ 0 dL_law_777 rfl rfl ?_
  refine a_iload_n hΓ 3 dL_law_778 rfl rfl ?_
  refine a_iconst hΓ dL_law_779 ?_
  refine a_iadd hΓ dL_law_780 ?_
  refine a_sld hΓ hX dL_law_781 ⟨by omega, by omega⟩ ?_
  refine a_aload_n hΓ 0 dL_law_782 rfl rfl ?_
  refine a_iload_n hΓ 3 dL_law_783 rfl rfl ?_
  refine a_iconst hΓ dL_law_784 ?_
  refine a_iadd hΓ dL_law_785 ?_
  refine a_sld hΓ hX dL_law_786 ⟨by omega, by omega⟩ ?_
  refine a_aload_n hΓ 0 dL_law_787 rfl rfl ?_
  refine a_iload_n hΓ 3 dL_law_788 rfl rfl ?_
  refine a_iconst hΓ dL_law_789 ?_
  refine a_iadd hΓ dL_law_790 ?_
  refine a_sld hΓ hX dL_law_791 ⟨by omega, by omega⟩ ?_
  obtain ⟨P2, q2, h1⟩ := h1
  refine a_callV (c := 102) (av := [aI (Xi xs (v3 + 1)), aI (Xi xs (v3 + 2)), aI (Xi xs (v3 + 3)), aI (Xi xs (v3 + 4))]) (st := [aI r1]) hΓ (ct_wX12_span _ _ (Xi xs (v3 + 1)) (Xi xs (v3 + 2)) (Xi xs (v3 + 3)) (Xi xs (v3 + 4)) M1 P2 q2) my_X12_span ml_RL_65 ni_X12_span kd_102 rfl lz_102 rfl (Nat.le_trans (by decide) hh) (by decide) hkc (Nat.le_of_ble_eq_true rfl) rfl dL_law_792 (fun v Z' hq => ?_)
  obtain ⟨r2, M2, rfl, rfl, hq⟩ := hq
  have h1 := h1 r2 M2 hq
  dsimp only at h1
  obtain ⟨g1, g2, g3, h1⟩ := h1
  refine a_icmp_eq (tgt := 1716) hΓ g1 g2 dL_law_795 (by decide) (fun _ => ?_) (fun c => absurd g3 c)
  exact hk M2 h1
def lc_12 (xs : Nat → Int32) (v3 : Int) (M : Mm) (k : Mm → Prop) : Prop :=
  Bd (wX11_why (Xi xs (v3 + 1)) (Xi xs (v3 + 2)) (Xi xs (v3 + 3)) (Xi xs (v3 + 4)) M) (fun r1 M1 =>
  Bd (wX12_why (Xi xs (v3 + 1)) (Xi xs (v3 + 2)) (Xi xs (v3 + 3)) (Xi xs (v3 + 4)) M1) (fun r2 M2 =>
  inR r1 ∧ inR r2 ∧ r1 = r2 ∧ k M2))
set_option maxHeartbeats 4000000 in
theorem s_lc_12 {Γ : Cx} {h kC kS kc ks L : Nat} (hΓ : Ok Γ code RL 4 h kC kS) (hh : 1000 ≤ h) (hkc : kc + 0 ≤ kC ∧ ks + 0 ≤ kS) {xs : Nat → Int32} (hX : LX Γ L xs) (hL : L ≤ 3584) {K : State → Prop} {k : Mm → Prop} {v3 : Int} (hv : 0 ≤ v3 ∧ v3 + 7 ≤ (L : Int)) (hk : ∀ M : Mm, k M → Wa Γ 4 K kc ks 1716 [(0, aR 1000), (1, aR 0), (2, aR 102), (3, aI v3)] [] (NC, RF, M)) (M : Mm) (h1 : lc_12 xs v3 M k) : Wa Γ 4 K kc ks 800 [(0, aR 1000), (1, aR 0), (2, aR 102), (3, aI v3)] [] (NC, RF, M) := by
  unfold lc_12 at h1
  refine a_aload_n hΓ 1 dL_law_800 rfl rfl ?_
  refine a_aload_n hΓ 0 dL_law_801 rfl rfl ?_
  refine a_iload_n hΓ 3 dL_law_802 rfl rfl ?_
  refine a_iconst hΓ dL_law_803 ?_
  refine a_iadd hΓ dL_law_804 ?_
  refine a_sld hΓ hX dL_law_805 ⟨by omega, by omega⟩ ?_
  refine a_aload_n hΓ 0 dL_law_806 rfl rfl ?_
  refine a_iload_n hΓ 3 dL_law_807 rfl rfl ?_
  refine a_iconst hΓ dL_law_808 ?_
  refine a_iadd hΓ dL_law_809 ?_
  refine a_sld hΓ hX dL_law_810 ⟨by omega, by omega⟩ ?_
  refine a_aload_n hΓ 0 dL_law_811 rfl rfl ?_
  refine a_iload_n hΓ 3 dL_law_812 rfl rfl ?_
  refine a_iconst hΓ dL_law_813 ?_
  refine a_iadd hΓ dL_law_814 ?_
  refine a_sld hΓ hX dL_law_815 ⟨by omega, by omega⟩ ?_
  refine a_aload_n hΓ 0 dL_law_816 rfl rfl ?_
  refine a_iload_n hΓ 3 dL_law_817 rfl rfl ?_
  refine a_iconst hΓ dL_law_818 ?_
  refine a_iadd hΓ dL_law_819 ?_
  refine a_sld hΓ hX dL_law_820 ⟨by omega, by omega⟩ ?_
  obtain ⟨P1, q1, h1⟩ := h1
  refine a_callV (c := 0) (av := [aI (Xi xs (v3 + 1)), aI (Xi xs (v3 + 2)), aI (Xi xs (v3 + 3)), aI (Xi xs (v3 + 4))]) (st := []) hΓ (ct_wX11_why _ _ (Xi xs (v3 + 1)) (Xi xs (v3 + 2)) (Xi xs (v3 + 3)) (Xi xs (v3 + 4)) M P1 q1) my_X11_why ml_RL_66 ni_X11_why kd_0 rfl lz_0 rfl (Nat.le_trans (by decide) hh) (by decide) hkc (Nat.le_of_ble_eq_true rfl) rfl dL_law_821 (fun v Z' hq => ?_)
  obtain ⟨r1, M1, rfl, rfl, hq⟩ := hq
  have h1 := h1 r1 M1 hq
  dsimp only at h1
  refine a_aload_n hΓ 2 dL_law_824 rfl rfl ?_
  refine a_aload_n hΓ 0 dL_law_825 rfl rfl ?_
  refine a_iload_n hΓ 3 dL_law_826 rfl rfl ?_
  refine a_iconst hΓ dL_law_827 ?_
  refine a_iadd hΓ dL_law_828 ?_
  refine a_sld hΓ hX dL_law_829 ⟨by omega, by omega⟩ ?_
  refine a_aload_n hΓ 0 dL_law_830 rfl rfl ?_
  refine a_iload_n hΓ 3 dL_law_831 rfl rfl ?_
  refine a_iconst hΓ dL_law_832 ?_
  refine a_iadd hΓ dL_law_833 ?_
  refine a_sld hΓ hX dL_law_834 ⟨by omega, by omega⟩ ?_
  refine a_aload_n hΓ 0 dL_law_835 rfl rfl ?_
  refine a_iload_n hΓ 3 dL_law_836 rfl rfl ?_
  refine a_iconst hΓ dL_law_837 ?_
  refine a_iadd hΓ dL_law_838 ?_
  refine a_sld hΓ hX dL_law_839 ⟨by omega, by omega⟩ ?_
  refine a_aload_n hΓ 0 dL_law_840 rfl rfl ?_
  refine a_iload_n hΓ 3 dL_law_841 rfl rfl ?_
  refine a_iconst hΓ dL_law_842 ?_
  refine a_iadd hΓ dL_law_843 ?_
  refine a_sld hΓ hX dL_law_844 ⟨by omega, by omega⟩ ?_
  obtain ⟨P2, q2, h1⟩ := h1
  refine a_callV (c := 102) (av := [aI (Xi xs (v3 + 1)), aI (Xi xs (v3 + 2)), aI (Xi xs (v3 + 3)), aI (Xi xs (v3 + 4))]) (st := [aI r1]) hΓ (ct_wX12_why _ _ (Xi xs (v3 + 1)) (Xi xs (v3 + 2)) (Xi xs (v3 + 3)) (Xi xs (v3 + 4)) M1 P2 q2) my_X12_why ml_RL_69 ni_X12_why kd_102 rfl lz_102 rfl (Nat.le_trans (by decide) hh) (by decide) hkc (Nat.le_of_ble_eq_true rfl) rfl dL_law_845 (fun v Z' hq => ?_)
  obtain ⟨r2, M2, rfl, rfl, hq⟩ := hq
  have h1 := h1 r2 M2 hq
  dsimp only at h1
  obtain ⟨g1, g2, g3, h1⟩ := h1
  refine a_icmp_eq (tgt := 1716) hΓ g1 g2 dL_law_848 (by decide) (fun _ => ?_) (fun c => absurd g3 c)
  exact hk M2 h1
def lc_13 (xs : Nat → Int32) (v3 : Int) (M : Mm) (k : Mm → Prop) : Prop :=
  Bd (wX11_lost (Xi xs (v3 + 1)) (Xi xs (v3 + 2)) (Xi xs (v3 + 3)) (Xi xs (v3 + 4)) (Xi xs (v3 + 5)) M) (fun r1 M1 =>
  Bd (wX12_lost (Xi xs (v3 + 1)) (Xi xs (v3 + 2)) (Xi xs (v3 + 3)) (Xi xs (v3 + 4)) (Xi xs (v3 + 5)) M1) (fun r2 M2 =>
  inR64 r1 ∧ inR64 r2 ∧ r1 = r2 ∧ k M2))
set_option maxHeartbeats 4000000 in
theorem s_lc_13 {Γ : Cx} {h kC kS kc ks L : Nat} (hΓ : Ok Γ code RL 4 h kC kS) (hh : 1000 ≤ h) (hkc : kc + 0 ≤ kC ∧ ks + 0 ≤ kS) {xs : Nat → Int32} (hX : LX Γ L xs) (hL : L ≤ 3584) {K : State → Prop} {k : Mm → Prop} {v3 : Int} (hv : 0 ≤ v3 ∧ v3 + 7 ≤ (L : Int)) (hk : ∀ M : Mm, k M → Wa Γ 4 K kc ks 1716 [(0, aR 1000), (1, aR 0), (2, aR 102), (3, aI v3)] [] (NC, RF, M)) (M : Mm) (h1 : lc_13 xs v3 M k) : Wa Γ 4 K kc ks 853 [(0, aR 1000), (1, aR 0), (2, aR 102), (3, aI v3)] [] (NC, RF, M) := by
  unfold lc_13 at h1
  refine a_aload_n hΓ 1 dL_law_853 rfl rfl ?_
  refine a_aload_n hΓ 0 dL_law_854 rfl rfl ?_
  refine a_iload_n hΓ 3 dL_law_855 rfl rfl ?_
  refine a_iconst hΓ dL_law_856 ?_
  refine a_iadd hΓ dL_law_857 ?_
  refine a_sld hΓ hX dL_law_858 ⟨by omega, by omega⟩ ?_
  refine a_aload_n hΓ 0 dL_law_859 rfl rfl ?_
  refine a_iload_n hΓ 3 dL_law_860 rfl rfl ?_
  refine a_iconst hΓ dL_law_861 ?_
  refine a_iadd hΓ dL_law_862 ?_
  refine a_sld hΓ hX dL_law_863 ⟨by omega, by omega⟩ ?_
  refine a_aload_n hΓ 0 dL_law_864 rfl rfl ?_
  refine a_iload_n hΓ 3 dL_law_865 rfl rfl ?_
  refine a_iconst hΓ dL_law_866 ?_
  refine a_iadd hΓ dL_law_867 ?_
  refine a_sld hΓ hX dL_law_868 ⟨by omega, by omega⟩ ?_
  refine a_aload_n hΓ 0 dL_law_869 rfl rfl ?_
  refine a_iload_n hΓ 3 dL_law_870 rfl rfl ?_
  refine a_iconst hΓ dL_law_871 ?_
  refine a_iadd hΓ dL_law_872 ?_
  refine a_sld hΓ hX dL_law_873 ⟨by omega, by omega⟩ ?_
  refine a_aload_n hΓ 0 dL_law_874 rfl rfl ?_
  refine a_iload_n hΓ 3 dL_law_875 rfl rfl ?_
  refine a_iconst hΓ dL_law_876 ?_
  refine a_iadd hΓ dL_law_877 ?_
  refine a_sld hΓ hX dL_law_878 ⟨by omega, by omega⟩ ?_
  obtain ⟨P1, q1, h1⟩ := h1
  refine a_callV (c := 0) (av := [aI (Xi xs (v3 + 1)), aI (Xi xs (v3 + 2)), aI (Xi xs (v3 + 3)), aI (Xi xs (v3 + 4)), aI (Xi xs (v3 + 5))]) (st := []) hΓ (ct_wX11_lost _ _ (Xi xs (v3 + 1)) (Xi xs (v3 + 2)) (Xi xs (v3 + 3)) (Xi xs (v3 + 4)) (Xi xs (v3 + 5)) M P1 q1) my_X11_lost ml_RL_70 ni_X11_lost kd_0 rfl lz_0 rfl (Nat.le_trans (by decide) hh) (by decide) hkc (Nat.le_of_ble_eq_true rfl) rfl dL_law_879 (fun v Z' hq => ?_)
  obtain ⟨r1, M1, rfl, rfl, hq⟩ := hq
  have h1 := h1 r1 M1 hq
  dsimp only at h1
  refine a_aload_n hΓ 2 dL_law_882 rfl rfl ?_
  refine a_aload_n hΓ 0 dL_law_883 rfl rfl ?_
  refine a_iload_n hΓ 3 dL_law_884 rfl rfl ?_
  refine a_iconst hΓ dL_law_885 ?_
  refine a_iadd hΓ dL_law_886 ?_
  refine a_sld hΓ hX dL_law_887 ⟨by omega, by omega⟩ ?_
  refine a_aload_n hΓ 0 dL_law_888 rfl rfl ?_
  refine a_iload_n hΓ 3 dL_law_889 rfl rfl ?_
  refine a_iconst hΓ dL_law_890 ?_
  refine a_iadd hΓ dL_law_891 ?_
  refine a_sld hΓ hX dL_law_892 ⟨by omega, by omega⟩ ?_
  refine a_aload_n hΓ 0 dL_law_893 rfl rfl ?_
  refine a_iload_n hΓ 3 dL_law_894 rfl rfl ?_
  refine a_iconst hΓ dL_law_895 ?_
  refine a_iadd hΓ dL_law_896 ?_
  refine a_sld hΓ hX dL_law_897 ⟨by omega, by omega⟩ ?_
  refine a_aload_n hΓ 0 dL_law_898 rfl rfl ?_
  refine a_iload_n hΓ 3 dL_law_899 rfl rfl ?_
  refine a_iconst hΓ dL_law_900 ?_
  refine a_iadd hΓ dL_law_901 ?_
  refine a_sld hΓ hX dL_law_902 ⟨by omega, by omega⟩ ?_
  refine a_aload_n hΓ 0 dL_law_903 rfl rfl ?_
  refine a_iload_n hΓ 3 dL_law_904 rfl rfl ?_
  refine a_iconst hΓ dL_law_905 ?_
  refine a_iadd hΓ dL_law_906 ?_
  refine a_sld hΓ hX dL_law_907 ⟨by omega, by omega⟩ ?_
  obtain ⟨P2, q2, h1⟩ := h1
  refine a_callV (c := 102) (av := [aI (Xi xs (v3 + 1)), aI (Xi xs (v3 + 2)), aI (Xi xs (v3 + 3)), aI (Xi xs (v3 + 4)), aI (Xi xs (v3 + 5))]) (st := [aL r1]) hΓ (ct_wX12_lost _ _ (Xi xs (v3 + 1)) (Xi xs (v3 + 2)) (Xi xs (v3 + 3)) (Xi xs (v3 + 4)) (Xi xs (v3 + 5)) M1 P2 q2) my_X12_lost ml_RL_74 ni_X12_lost kd_102 rfl lz_102 rfl (Nat.le_trans (by decide) hh) (by decide) hkc (Nat.le_of_ble_eq_true rfl) rfl dL_law_908 (fun v Z' hq => ?_)
  obtain ⟨r2, M2, rfl, rfl, hq⟩ := hq
  have h1 := h1 r2 M2 hq
  dsimp only at h1
  obtain ⟨g1, g2, g3, h1⟩ := h1
  refine a_lcmp hΓ g1 g2 dL_law_911 ?_
  refine a_if_eq (tgt := 1716) hΓ (inR_cmp _ _) dL_law_912 (by decide) (fun _ => ?_) (fun c => absurd (by rw [g3]; exact cmpI_self _) c)
  exact hk M2 h1
def lc_14 (xs : Nat → Int32) (v3 : Int) (M : Mm) (k : Mm → Prop) : Prop :=
  Bd (wX11_widest (Xi xs (v3 + 1)) (Xi xs (v3 + 2)) (Xi xs (v3 + 3)) (Xi xs (v3 + 4)) M) (fun r1 M1 =>
  Bd (wX12_widest (Xi xs (v3 + 1)) (Xi xs (v3 + 2)) (Xi xs (v3 + 3)) (Xi xs (v3 + 4)) M1) (fun r2 M2 =>
  inR r1 ∧ inR r2 ∧ r1 = r2 ∧ k M2))
set_option maxHeartbeats 4000000 in
theorem s_lc_14 {Γ : Cx} {h kC kS kc ks L : Nat} (hΓ : Ok Γ code RL 4 h kC kS) (hh : 1000 ≤ h) (hkc : kc + 0 ≤ kC ∧ ks + 0 ≤ kS) {xs : Nat → Int32} (hX : LX Γ L xs) (hL : L ≤ 3584) {K : State → Prop} {k : Mm → Prop} {v3 : Int} (hv : 0 ≤ v3 ∧ v3 + 7 ≤ (L : Int)) (hk : ∀ M : Mm, k M → Wa Γ 4 K kc ks 1716 [(0, aR 1000), (1, aR 0), (2, aR 102), (3, aI v3)] [] (NC, RF, M)) (M : Mm) (h1 : lc_14 xs v3 M k) : Wa Γ 4 K kc ks 917 [(0, aR 1000), (1, aR 0), (2, aR 102), (3, aI v3)] [] (NC, RF, M) := by
  unfold lc_14 at h1
  refine a_aload_n hΓ 1 dL_law_917 rfl rfl ?_
  refine a_aload_n hΓ 0 dL_law_918 rfl rfl ?_
  refine a_iload_n hΓ 3 dL_law_919 rfl rfl ?_
  refine a_iconst hΓ dL_law_920 ?_
  refine a_iadd hΓ dL_law_921 ?_
  refine a_sld hΓ hX dL_law_922 ⟨by omega, by omega⟩ ?_
  refine a_aload_n hΓ 0 dL_law_923 rfl rfl ?_
  refine a_iload_n hΓ 3 dL_law_924 rfl rfl ?_
  refine a_iconst hΓ dL_law_925 ?_
  refine a_iadd hΓ dL_law_926 ?_
  refine a_sld hΓ hX dL_law_927 ⟨by omega, by omega⟩ ?_
  refine a_aload_n hΓ 0 dL_law_928 rfl rfl ?_
  refine a_iload_n hΓ 3 dL_law_929 rfl rfl ?_
  refine a_iconst hΓ dL_law_930 ?_
  refine a_iadd hΓ dL_law_931 ?_
  refine a_sld hΓ hX dL_law_932 ⟨by omega, by omega⟩ ?_
  refine a_aload_n hΓ 0 dL_law_933 rfl rfl ?_
  refine a_iload_n hΓ 3 dL_law_934 rfl rfl ?_
  refine a_iconst hΓ dL_law_935 ?_
  refine a_iadd hΓ dL_law_936 ?_
  refine a_sld hΓ hX dL_law_937 ⟨by omega, by omega⟩ ?_
  obtain ⟨P1, q1, h1⟩ := h1
  refine a_callV (c := 0) (av := [aI (Xi xs (v3 + 1)), aI (Xi xs (v3 + 2)), aI (Xi xs (v3 + 3)), aI (Xi xs (v3 + 4))]) (st := []) hΓ (ct_wX11_widest _ _ (Xi xs (v3 + 1)) (Xi xs (v3 + 2)) (Xi xs (v3 + 3)) (Xi xs (v3 + 4)) M P1 q1) my_X11_widest ml_RL_75 ni_X11_widest kd_0 rfl lz_0 rfl (Nat.le_trans (by decide) hh) (by decide) hkc (Nat.le_of_ble_eq_true rfl) rfl dL_law_938 (fun v Z' hq => ?_)
  obtain ⟨r1, M1, rfl, rfl, hq⟩ := hq
  have h1 := h1 r1 M1 hq
  dsimp only at h1
  refine a_aload_n hΓ 2 dL_law_941 rfl rfl ?_
  refine a_aload_n hΓ 0 dL_law_942 rfl rfl ?_
  refine a_iload_n hΓ 3 dL_law_943 rfl rfl ?_
  refine a_iconst hΓ dL_law_944 ?_
  refine a_iadd hΓ dL_law_945 ?_
  refine a_sld hΓ hX dL_law_946 ⟨by omega, by omega⟩ ?_
  refine a_aload_n hΓ 0 dL_law_947 rfl rfl ?_
  refine a_iload_n hΓ 3 dL_law_948 rfl rfl ?_
  refine a_iconst hΓ dL_law_949 ?_
  refine a_iadd hΓ dL_law_950 ?_
  refine a_sld hΓ hX dL_law_951 ⟨by omega, by omega⟩ ?_
  refine a_aload_n hΓ 0 dL_law_952 rfl rfl ?_
  refine a_iload_n hΓ 3 dL_law_953 rfl rfl ?_
  refine a_iconst hΓ dL_law_954 ?_
  refine a_iadd hΓ dL_law_955 ?_
  refine a_sld hΓ hX dL_law_956 ⟨by omega, by omega⟩ ?_
  refine a_aload_n hΓ 0 dL_law_957 rfl rfl ?_
  refine a_iload_n hΓ 3 dL_law_958 rfl rfl ?_
  refine a_iconst hΓ dL_law_959 ?_
  refine a_iadd hΓ dL_law_960 ?_
  refine a_sld hΓ hX dL_law_961 ⟨by omega, by omega⟩ ?_
  obtain ⟨P2, q2, h1⟩ := h1
  refine a_callV (c := 102) (av := [aI (Xi xs (v3 + 1)), aI (Xi xs (v3 + 2)), aI (Xi xs (v3 + 3)), aI (Xi xs (v3 + 4))]) (st := [aI r1]) hΓ (ct_wX12_widest _ _ (Xi xs (v3 + 1)) (Xi xs (v3 + 2)) (Xi xs (v3 + 3)) (Xi xs (v3 + 4)) M1 P2 q2) my_X12_widest ml_RL_78 ni_X12_widest kd_102 rfl lz_102 rfl (Nat.le_trans (by decide) hh) (by decide) hkc (Nat.le_of_ble_eq_true rfl) rfl dL_law_962 (fun v Z' hq => ?_)
  obtain ⟨r2, M2, rfl, rfl, hq⟩ := hq
  have h1 := h1 r2 M2 hq
  dsimp only at h1
  obtain ⟨g1, g2, g3, h1⟩ := h1
  refine a_icmp_eq (tgt := 1716) hΓ g1 g2 dL_law_965 (by decide) (fun _ => ?_) (fun c => absurd g3 c)
  exact hk M2 h1
def lc_15 (xs : Nat → Int32) (v3 : Int) (M : Mm) (k : Mm → Prop) : Prop :=
  Bd (wX11_quarrels (Xi xs (v3 + 1)) (Xi xs (v3 + 2)) (Xi xs (v3 + 3)) M) (fun r1 M1 =>
  Bd (wX12_quarrels (Xi xs (v3 + 1)) (Xi xs (v3 + 2)) (Xi xs (v3 + 3)) M1) (fun r2 M2 =>
  inR r1 ∧ inR r2 ∧ r1 = r2 ∧ k M2))
set_option maxHeartbeats 4000000 in
theorem s_lc_15 {Γ : Cx} {h kC kS kc ks L : Nat} (hΓ : Ok Γ code RL 4 h kC kS) (hh : 1000 ≤ h) (hkc : kc + 0 ≤ kC ∧ ks + 0 ≤ kS) {xs : Nat → Int32} (hX : LX Γ L xs) (hL : L ≤ 3584) {K : State → Prop} {k : Mm → Prop} {v3 : Int} (hv : 0 ≤ v3 ∧ v3 + 7 ≤ (L : Int)) (hk : ∀ M : Mm, k M → Wa Γ 4 K kc ks 1716 [(0, aR 1000), (1, aR 0), (2, aR 102), (3, aI v3)] [] (NC, RF, M)) (M : Mm) (h1 : lc_15 xs v3 M k) : Wa Γ 4 K kc ks 970 [(0, aR 1000), (1, aR 0), (2, aR 102), (3, aI v3)] [] (NC, RF, M) := by
  unfold lc_15 at h1
  refine a_aload_n hΓ 1 dL_law_970 rfl rfl ?_
  refine a_aload_n hΓ 0 dL_law_971 rfl rfl ?_
  refine a_iload_n hΓ 3 dL_law_972 rfl rfl ?_
  refine a_iconst hΓ dL_law_973 ?_
  refine a_iadd hΓ dL_law_974 ?_
  refine a_sld hΓ hX dL_law_975 ⟨by omega, by omega⟩ ?_
  refine a_aload_n hΓ 0 dL_law_976 rfl rfl ?_
  refine a_iload_n hΓ 3 dL_law_977 rfl rfl ?_
  refine a_iconst hΓ dL_law_978 ?_
  refine a_iadd hΓ dL_law_979 ?_
  refine a_sld hΓ hX dL_law_980 ⟨by omega, by omega⟩ ?_
  refine a_aload_n hΓ 0 dL_law_981 rfl rfl ?_
  refine a_iload_n hΓ 3 dL_law_982 rfl rfl ?_
  refine a_iconst hΓ dL_law_983 ?_
  refine a_iadd hΓ dL_law_984 ?_
  refine a_sld hΓ hX dL_law_985 ⟨by omega, by omega⟩ ?_
  obtain ⟨P1, q1, h1⟩ := h1
  refine a_callV (c := 0) (av := [aI (Xi xs (v3 + 1)), aI (Xi xs (v3 + 2)), aI (Xi xs (v3 + 3))]) (st := []) hΓ (ct_wX11_quarrels _ _ (Xi xs (v3 + 1)) (Xi xs (v3 + 2)) (Xi xs (v3 + 3)) M P1 q1) my_X11_quarrels ml_RL_79 ni_X11_quarrels kd_0 rfl lz_0 rfl (Nat.le_trans (by decide) hh) (by decide) hkc (Nat.le_of_ble_eq_true rfl) rfl dL_law_986 (fun v Z' hq => ?_)
  obtain ⟨r1, M1, rfl, rfl, hq⟩ := hq
  have h1 := h1 r1 M1 hq
  dsimp only at h1
  refine a_aload_n hΓ 2 dL_law_989 rfl rfl ?_
  refine a_aload_n hΓ 0 dL_law_990 rfl rfl ?_
  refine a_iload_n hΓ 3 dL_law_991 rfl rfl ?_
  refine a_iconst hΓ dL_law_992 ?_
  refine a_iadd hΓ dL_law_993 ?_
  refine a_sld hΓ hX dL_law_994 ⟨by omega, by omega⟩ ?_
  refine a_aload_n hΓ 0 dL_law_995 rfl rfl ?_
  refine a_iload_n hΓ 3 dL_law_996 rfl rfl ?_
  refine a_iconst hΓ dL_law_997 ?_
  refine a_iadd hΓ dL_law_998 ?_
  refine a_sld hΓ hX dL_law_999 ⟨by omega, by omega⟩ ?_
  refine a_aload_n hΓ 0 dL_law_1000 rfl rfl ?_
  refine a_iload_n hΓ 3 dL_law_1001 rfl rfl ?_
  refine a_iconst hΓ dL_law_1002 ?_
  refine a_iadd hΓ dL_law_1003 ?_
  refine a_sld hΓ hX dL_law_1004 ⟨by omega, by omega⟩ ?_
  obtain ⟨P2, q2, h1⟩ := h1
  refine a_callV (c := 102) (av := [aI (Xi xs (v3 + 1)), aI (Xi xs (v3 + 2)), aI (Xi xs (v3 + 3))]) (st := [aI r1]) hΓ (ct_wX12_quarrels _ _ (Xi xs (v3 + 1)) (Xi xs (v3 + 2)) (Xi xs (v3 + 3)) M1 P2 q2) my_X12_quarrels ml_RL_82 ni_X12_quarrels kd_102 rfl lz_102 rfl (Nat.le_trans (by decide) hh) (by decide) hkc (Nat.le_of_ble_eq_true rfl) rfl dL_law_1005 (fun v Z' hq => ?_)
  obtain ⟨r2, M2, rfl, rfl, hq⟩ := hq
  have h1 := h1 r2 M2 hq
  dsimp only at h1
  obtain ⟨g1, g2, g3, h1⟩ := h1
  refine a_icmp_eq (tgt := 1716) hΓ g1 g2 dL_law_1008 (by decide) (fun _ => ?_) (fun c => absurd g3 c)
  exact hk M2 h1
def lc_16 (xs : Nat → Int32) (v3 : Int) (M : Mm) (k : Mm → Prop) : Prop :=
  Bd (wX11_quarrel (Xi xs (v3 + 1)) (Xi xs (v3 + 2)) M) (fun r1 M1 =>
  Bd (wX12_quarrel (Xi xs (v3 + 1)) (Xi xs (v3 + 2)) M1) (fun r2 M2 =>
  inR r1 ∧ inR r2 ∧ r1 = r2 ∧ k M2))
set_option maxHeartbeats 4000000 in
theorem s_lc_16 {Γ : Cx} {h kC kS kc ks L : Nat} (hΓ : Ok Γ code RL 4 h kC kS) (hh : 1000 ≤ h) (hkc : kc + 0 ≤ kC ∧ ks + 0 ≤ kS) {xs : Nat → Int32} (hX : LX Γ L xs) (hL : L ≤ 3584) {K : State → Prop} {k : Mm → Prop} {v3 : Int} (hv : 0 ≤ v3 ∧ v3 + 7 ≤ (L : Int)) (hk : ∀ M : Mm, k M → Wa Γ 4 K kc ks 1716 [(0, aR 1000), (1, aR 0), (2, aR 102), (3, aI v3)] [] (NC, RF, M)) (M : Mm) (h1 : lc_16 xs v3 M k) : Wa Γ 4 K kc ks 1013 [(0, aR 1000), (1, aR 0), (2, aR 102), (3, aI v3)] [] (NC, RF, M) := by
  unfold lc_16 at h1
  refine a_aload_n hΓ 1 dL_law_1013 rfl rfl ?_
  refine a_aload_n hΓ 0 dL_law_1014 rfl rfl ?_
  refine a_iload_n hΓ 3 dL_law_1015 rfl rfl ?_
  refine a_iconst hΓ dL_law_1016 ?_
  refine a_iadd hΓ dL_law_1017 ?_
  refine a_sld hΓ hX dL_law_1018 ⟨by omega, by omega⟩ ?_
  refine a_aload_n hΓ 0 dL_law_1019 rfl rfl ?_
  refine a_iload_n hΓ 3 dL_law_1020 rfl rfl ?_
  refine a_iconst hΓ dL_law_1021 ?_
  refine a_iadd hΓ dL_law_1022 ?_
  refine a_sld hΓ hX dL_law_1023 ⟨by omega, by omega⟩ ?_
  obtain ⟨P1, q1, h1⟩ := h1
  refine a_callV (c := 0) (av := [aI (Xi xs (v3 + 1)), aI (Xi xs (v3 + 2))]) (st := []) hΓ (ct_wX11_quarrel _ _ (Xi xs (v3 + 1)) (Xi xs (v3 + 2)) M P1 q1) my_X11_quarrel ml_RL_83 ni_X11_quarrel kd_0 rfl lz_0 rfl (Nat.le_trans (by decide) hh) (by decide) hkc (Nat.le_of_ble_eq_true rfl) rfl dL_law_1024 (fun v Z' hq => ?_)
  obtain ⟨r1, M1, rfl, rfl, hq⟩ := hq
  have h1 := h1 r1 M1 hq
  dsimp only at h1
  refine a_aload_n hΓ 2 dL_law_1027 rfl rfl ?_
  refine a_aload_n hΓ 0 dL_law_1028 rfl rfl ?_
  refine a_iload_n hΓ 3 dL_law_1029 rfl rfl ?_
  refine a_iconst hΓ dL_law_1030 ?_
  refine a_iadd hΓ dL_law_1031 ?_
  refine a_sld hΓ hX dL_law_1032 ⟨by omega, by omega⟩ ?_
  refine a_aload_n hΓ 0 dL_law_1033 rfl rfl ?_
  refine a_iload_n hΓ 3 dL_law_1034 rfl rfl ?_
  refine a_iconst hΓ dL_law_1035 ?_
  refine a_iadd hΓ dL_law_1036 ?_
  refine a_sld hΓ hX dL_law_1037 ⟨by omega, by omega⟩ ?_
  obtain ⟨P2, q2, h1⟩ := h1
  refine a_callV (c := 102) (av := [aI (Xi xs (v3 + 1)), aI (Xi xs (v3 + 2))]) (st := [aI r1]) hΓ (ct_wX12_quarrel _ _ (Xi xs (v3 + 1)) (Xi xs (v3 + 2)) M1 P2 q2) my_X12_quarrel ml_RL_86 ni_X12_quarrel kd_102 rfl lz_102 rfl (Nat.le_trans (by decide) hh) (by decide) hkc (Nat.le_of_ble_eq_true rfl) rfl dL_law_1038 (fun v Z' hq => ?_)
  obtain ⟨r2, M2, rfl, rfl, hq⟩ := hq
  have h1 := h1 r2 M2 hq
  dsimp only at h1
  obtain ⟨g1, g2, g3, h1⟩ := h1
  refine a_icmp_eq (tgt := 1716) hΓ g1 g2 dL_law_1041 (by decide) (fun _ => ?_) (fun c => absurd g3 c)
  exact hk M2 h1
def lc_17 (xs : Nat → Int32) (v3 : Int) (M : Mm) (k : Mm → Prop) : Prop :=
  Bd (wX11_right (Xi xs (v3 + 1)) (Xi xs (v3 + 2)) M) (fun r1 M1 =>
  Bd (wX12_right (Xi xs (v3 + 1)) (Xi xs (v3 + 2)) M1) (fun r2 M2 =>
  inR r1 ∧ inR r2 ∧ r1 = r2 ∧ k M2))
set_option maxHeartbeats 4000000 in
theorem s_lc_17 {Γ : Cx} {h kC kS kc ks L : Nat} (hΓ : Ok Γ code RL 4 h kC kS) (hh : 1000 ≤ h) (hkc : kc + 0 ≤ kC ∧ ks + 0 ≤ kS) {xs : Nat → Int32} (hX : LX Γ L xs) (hL : L ≤ 3584) {K : State → Prop} {k : Mm → Prop} {v3 : Int} (hv : 0 ≤ v3 ∧ v3 + 7 ≤ (L : Int)) (hk : ∀ M : Mm, k M → Wa Γ 4 K kc ks 1716 [(0, aR 1000), (1, aR 0), (2, aR 102), (3, aI v3)] [] (NC, RF, M)) (M : Mm) (h1 : lc_17 xs v3 M k) : Wa Γ 4 K kc ks 1046 [(0, aR 1000), (1, aR 0), (2, aR 102), (3, aI v3)] [] (NC, RF, M) := by
  unfold lc_17 at h1
  refine a_aload_n hΓ 1 dL_law_1046 rfl rfl ?_
  refine a_aload_n hΓ 0 dL_law_1047 rfl rfl ?_
  refine a_iload_n hΓ 3 dL_law_1048 rfl rfl ?_
  refine a_iconst hΓ dL_law_1049 ?_
  refine a_iadd hΓ dL_law_1050 ?_
  refine a_sld hΓ hX dL_law_1051 ⟨by omega, by omega⟩ ?_
  refine a_aload_n hΓ 0 dL_law_1052 rfl rfl ?_
  refine a_iload_n hΓ 3 dL_law_1053 rfl rfl ?_
  refine a_iconst hΓ dL_law_1054 ?_
  refine a_iadd hΓ dL_law_1055 ?_
  refine a_sld hΓ hX dL_law_1056 ⟨by omega, by omega⟩ ?_
  obtain ⟨P1, q1, h1⟩ := h1
  refine a_callV (c := 0) (av := [aI (Xi xs (v3 + 1)), aI (Xi xs (v3 + 2))]) (st := []) hΓ (ct_wX11_right _ _ (Xi xs (v3 + 1)) (Xi xs (v3 + 2)) M P1 q1) my_X11_right ml_RL_87 ni_X11_right kd_0 rfl lz_0 rfl (Nat.le_trans (by decide) hh) (by decide) hkc (Nat.le_of_ble_eq_true rfl) rfl dL_law_1057 (fun v Z' hq => ?_)
  obtain ⟨r1, M1, rfl, rfl, hq⟩ := hq
  have h1 := h1 r1 M1 hq
  dsimp only at h1
  refine a_aload_n hΓ 2 dL_law_1060 rfl rfl ?_
  refine a_aload_n hΓ 0 dL_law_1061 rfl rfl ?_
  refine a_iload_n hΓ 3 dL_law_1062 rfl rfl ?_
  refine a_iconst hΓ dL_law_1063 ?_
  refine a_iadd hΓ dL_law_1064 ?_
  refine a_sld hΓ hX dL_law_1065 ⟨by omega, by omega⟩ ?_
  refine a_aload_n hΓ 0 dL_law_1066 rfl rfl ?_
  refine a_iload_n hΓ 3 dL_law_1067 rfl rfl ?_
  refine a_iconst hΓ dL_law_1068 ?_
  refine a_iadd hΓ dL_law_1069 ?_
  refine a_sld hΓ hX dL_law_1070 ⟨by omega, by omega⟩ ?_
  obtain ⟨P2, q2, h1⟩ := h1
  refine a_callV (c := 102) (av := [aI (Xi xs (v3 + 1)), aI (Xi xs (v3 + 2))]) (st := [aI r1]) hΓ (ct_wX12_right _ _ (Xi xs (v3 + 1)) (Xi xs (v3 + 2)) M1 P2 q2) my_X12_right ml_RL_90 ni_X12_right kd_102 rfl lz_102 rfl (Nat.le_trans (by decide) hh) (by decide) hkc (Nat.le_of_ble_eq_true rfl) rfl dL_law_1071 (fun v Z' hq => ?_)
  obtain ⟨r2, M2, rfl, rfl, hq⟩ := hq
  have h1 := h1 r2 M2 hq
  dsimp only at h1
  obtain ⟨g1, g2, g3, h1⟩ := h1
  refine a_icmp_eq (tgt := 1716) hΓ g1 g2 dL_law_1074 (by decide) (fun _ => ?_) (fun c => absurd g3 c)
  exact hk M2 h1
def lc_18 (xs : Nat → Int32) (v3 : Int) (M : Mm) (k : Mm → Prop) : Prop :=
  Bd (wX11_isRight (Xi xs (v3 + 1)) M) (fun r1 M1 =>
  Bd (wX12_isRight (Xi xs (v3 + 1)) M1) (fun r2 M2 =>
  inR r1 ∧ inR r2 ∧ r1 = r2 ∧ k M2))
set_option maxHeartbeats 4000000 in
theorem s_lc_18 {Γ : Cx} {h kC kS kc ks L : Nat} (hΓ : Ok Γ code RL 4 h kC kS) (hh : 1000 ≤ h) (hkc : kc + 0 ≤ kC ∧ ks + 0 ≤ kS) {xs : Nat → Int32} (hX : LX Γ L xs) (hL : L ≤ 3584) {K : State → Prop} {k : Mm → Prop} {v3 : Int} (hv : 0 ≤ v3 ∧ v3 + 7 ≤ (L : Int)) (hk : ∀ M : Mm, k M → Wa Γ 4 K kc ks 1716 [(0, aR 1000), (1, aR 0), (2, aR 102), (3, aI v3)] [] (NC, RF, M)) (M : Mm) (h1 : lc_18 xs v3 M k) : Wa Γ 4 K kc ks 1079 [(0, aR 1000), (1, aR 0), (2, aR 102), (3, aI v3)] [] (NC, RF, M) := by
  unfold lc_18 at h1
  refine a_aload_n hΓ 1 dL_law_1079 rfl rfl ?_
  refine a_aload_n hΓ 0 dL_law_1080 rfl rfl ?_
  refine a_iload_n hΓ 3 dL_law_1081 rfl rfl ?_
  refine a_iconst hΓ dL_law_1082 ?_
  refine a_iadd hΓ dL_law_1083 ?_
  refine a_sld hΓ hX dL_law_1084 ⟨by omega, by omega⟩ ?_
  obtain ⟨P1, q1, h1⟩ := h1
  refine a_callV (c := 0) (av := [aI (Xi xs (v3 + 1))]) (st := []) hΓ (ct_wX11_isRight _ _ (Xi xs (v3 + 1)) M P1 q1) my_X11_isRight ml_RL_91 ni_X11_isRight kd_0 rfl lz_0 rfl (Nat.le_trans (by decide) hh) (by decide) hkc (Nat.le_of_ble_eq_true rfl) rfl dL_law_1085 (fun v Z' hq => ?_)
  obtain ⟨r1, M1, rfl, rfl, hq⟩ := hq
  have h1 := h1 r1 M1 hq
  dsimp only at h1
  refine a_aload_n hΓ 2 dL_law_1088 rfl rfl ?_
  refine a_aload_n hΓ 0 dL_law_1089 rfl rfl ?_
  refine a_iload_n hΓ 3 dL_law_1090 rfl rfl ?_
  refine a_iconst hΓ dL_law_1091 ?_
  refine a_iadd hΓ dL_law_1092 ?_
  refine a_sld hΓ hX dL_law_1093 ⟨by omega, by omega⟩ ?_
  obtain ⟨P2, q2, h1⟩ := h1
  refine a_callV (c := 102) (av := [aI (Xi xs (v3 + 1))]) (st := [aI r1]) hΓ (ct_wX12_isRight _ _ (Xi xs (v3 + 1)) M1 P2 q2) my_X12_isRight ml_RL_94 ni_X12_isRight kd_102 rfl lz_102 rfl (Nat.le_trans (by decide) hh) (by decide) hkc (Nat.le_of_ble_eq_true rfl) rfl dL_law_1094 (fun v Z' hq => ?_)
  obtain ⟨r2, M2, rfl, rfl, hq⟩ := hq
  have h1 := h1 r2 M2 hq
  dsimp only at h1
  obtain ⟨g1, g2, g3, h1⟩ := h1
  refine a_icmp_eq (tgt := 1716) hΓ g1 g2 dL_law_1097 (by decide) (fun _ => ?_) (fun c => absurd g3 c)
  exact hk M2 h1
def lc_19 (xs : Nat → Int32) (v3 : Int) (M : Mm) (k : Mm → Prop) : Prop :=
  Bd (wX11_prove (Xi xs (v3 + 1)) (Xi xs (v3 + 2)) M) (fun r1 M1 =>
  Bd (wX12_prove (Xi xs (v3 + 1)) (Xi xs (v3 + 2)) M1) (fun r2 M2 =>
  inR r1 ∧ inR r2 ∧ r1 = r2 ∧ k M2))
set_option maxHeartbeats 4000000 in
theorem s_lc_19 {Γ : Cx} {h kC kS kc ks L : Nat} (hΓ : Ok Γ code RL 4 h kC kS) (hh : 1000 ≤ h) (hkc : kc + 0 ≤ kC ∧ ks + 0 ≤ kS) {xs : Nat → Int32} (hX : LX Γ L xs) (hL : L ≤ 3584) {K : State → Prop} {k : Mm → Prop} {v3 : Int} (hv : 0 ≤ v3 ∧ v3 + 7 ≤ (L : Int)) (hk : ∀ M : Mm, k M → Wa Γ 4 K kc ks 1716 [(0, aR 1000), (1, aR 0), (2, aR 102), (3, aI v3)] [] (NC, RF, M)) (M : Mm) (h1 : lc_19 xs v3 M k) : Wa Γ 4 K kc ks 1102 [(0, aR 1000), (1, aR 0), (2, aR 102), (3, aI v3)] [] (NC, RF, M) := by
  unfold lc_19 at h1
  refine a_aload_n hΓ 1 dL_law_1102 rfl rfl ?_
  refine a_aload_n hΓ 0 dL_law_1103 rfl rfl ?_
  refine a_iload_n hΓ 3 dL_law_1104 rfl rfl ?_
  refine a_iconst hΓ dL_law_1105 ?_
  refine a_iadd hΓ dL_law_1106 ?_
  refine a_sld hΓ hX dL_law_1107 ⟨by omega, by omega⟩ ?_
  refine a_aload_n hΓ 0 dL_law_1108 rfl rfl ?_
  refine a_iload_n hΓ 3 dL_law_1109 rfl rfl ?_
  refine a_iconst hΓ dL_law_1110 ?_
  refine a_iadd hΓ dL_law_1111 ?_
  refine a_sld hΓ hX dL_law_1112 ⟨by omega, by omega⟩ ?_
  obtain ⟨P1, q1, h1⟩ := h1
  refine a_callV (c := 0) (av := [aI (Xi xs (v3 + 1)), aI (Xi xs (v3 + 2))]) (st := []) hΓ (ct_wX11_prove _ _ (Xi xs (v3 + 1)) (Xi xs (v3 + 2)) M P1 q1) my_X11_prove ml_RL_95 ni_X11_prove kd_0 rfl lz_0 rfl (Nat.le_trans (by decide) hh) (by decide) hkc (Nat.le_of_ble_eq_true rfl) rfl dL_law_1113 (fun v Z' hq => ?_)
  obtain ⟨r1, M1, rfl, rfl, hq⟩ := hq
  have h1 := h1 r1 M1 hq
  dsimp only at h1
  refine a_aload_n hΓ 2 dL_law_1116 rfl rfl ?_
  refine a_aload_n hΓ 0 dL_law_1117 rfl rfl ?_
  refine a_iload_n hΓ 3 dL_law_1118 rfl rfl ?_
  refine a_iconst hΓ dL_law_1119 ?_
  refine a_iadd hΓ dL_law_1120 ?_
  refine a_sld hΓ hX dL_law_1121 ⟨by omega, by omega⟩ ?_
  refine a_aload_n hΓ 0 dL_law_1122 rfl rfl ?_
  refine a_iload_n hΓ 3 dL_law_1123 rfl rfl ?_
  refine a_iconst hΓ dL_law_1124 ?_
  refine a_iadd hΓ dL_law_1125 ?_
  refine a_sld hΓ hX dL_law_1126 ⟨by omega, by omega⟩ ?_
  obtain ⟨P2, q2, h1⟩ := h1
  refine a_callV (c := 102) (av := [aI (Xi xs (v3 + 1)), aI (Xi xs (v3 + 2))]) (st := [aI r1]) hΓ (ct_wX12_prove _ _ (Xi xs (v3 + 1)) (Xi xs (v3 + 2)) M1 P2 q2) my_X12_prove ml_RL_98 ni_X12_prove kd_102 rfl lz_102 rfl (Nat.le_trans (by decide) hh) (by decide) hkc (Nat.le_of_ble_eq_true rfl) rfl dL_law_1127 (fun v Z' hq => ?_)
  obtain ⟨r2, M2, rfl, rfl, hq⟩ := hq
  have h1 := h1 r2 M2 hq
  dsimp only at h1
  obtain ⟨g1, g2, g3, h1⟩ := h1
  refine a_icmp_eq (tgt := 1716) hΓ g1 g2 dL_law_1130 (by decide) (fun _ => ?_) (fun c => absurd g3 c)
  exact hk M2 h1
def lc_20 (xs : Nat → Int32) (v3 : Int) (M : Mm) (k : Mm → Prop) : Prop :=
  Bd (wX11_proof (Xi xs (v3 + 1)) M) (fun r1 M1 =>
  Bd (wX12_proof (Xi xs (v3 + 1)) M1) (fun r2 M2 =>
  inR r1 ∧ inR r2 ∧ r1 = r2 ∧ k M2))
set_option maxHeartbeats 4000000 in
theorem s_lc_20 {Γ : Cx} {h kC kS kc ks L : Nat} (hΓ : Ok Γ code RL 4 h kC kS) (hh : 1000 ≤ h) (hkc : kc + 0 ≤ kC ∧ ks + 0 ≤ kS) {xs : Nat → Int32} (hX : LX Γ L xs) (hL : L ≤ 3584) {K : State → Prop} {k : Mm → Prop} {v3 : Int} (hv : 0 ≤ v3 ∧ v3 + 7 ≤ (L : Int)) (hk : ∀ M : Mm, k M → Wa Γ 4 K kc ks 1716 [(0, aR 1000), (1, aR 0), (2, aR 102), (3, aI v3)] [] (NC, RF, M)) (M : Mm) (h1 : lc_20 xs v3 M k) : Wa Γ 4 K kc ks 1135 [(0, aR 1000), (1, aR 0), (2, aR 102), (3, aI v3)] [] (NC, RF, M) := by
  unfold lc_20 at h1
  refine a_aload_n hΓ 1 dL_law_1135 rfl rfl ?_
  refine a_aload_n hΓ 0 dL_law_1136 rfl rfl ?_
  refine a_iload_n hΓ 3 dL_law_1137 rfl rfl ?_
  refine a_iconst hΓ dL_law_1138 ?_
  refine a_iadd hΓ dL_law_1139 ?_
  refine a_sld hΓ hX dL_law_1140 ⟨by omega, by omega⟩ ?_
  obtain ⟨P1, q1, h1⟩ := h1
  refine a_callV (c := 0) (av := [aI (Xi xs (v3 + 1))]) (st := []) hΓ (ct_wX11_proof _ _ (Xi xs (v3 + 1)) M P1 q1) my_X11_proof ml_RL_99 ni_X11_proof kd_0 rfl lz_0 rfl (Nat.le_trans (by decide) hh) (by decide) hkc (Nat.le_of_ble_eq_true rfl) rfl dL_law_1141 (fun v Z' hq => ?_)
  obtain ⟨r1, M1, rfl, rfl, hq⟩ := hq
  have h1 := h1 r1 M1 hq
  dsimp only at h1
  refine a_aload_n hΓ 2 dL_law_1144 rfl rfl ?_
  refine a_aload_n hΓ 0 dL_law_1145 rfl rfl ?_
  refine a_iload_n hΓ 3 dL_law_1146 rfl rfl ?_
  refine a_iconst hΓ dL_law_1147 ?_
  refine a_iadd hΓ dL_law_1148 ?_
  refine a_sld hΓ hX dL_law_1149 ⟨by omega, by omega⟩ ?_
  obtain ⟨P2, q2, h1⟩ := h1
  refine a_callV (c := 102) (av := [aI (Xi xs (v3 + 1))]) (st := [aI r1]) hΓ (ct_wX12_proof _ _ (Xi xs (v3 + 1)) M1 P2 q2) my_X12_proof ml_RL_102 ni_X12_proof kd_102 rfl lz_102 rfl (Nat.le_trans (by decide) hh) (by decide) hkc (Nat.le_of_ble_eq_true rfl) rfl dL_law_1150 (fun v Z' hq => ?_)
  obtain ⟨r2, M2, rfl, rfl, hq⟩ := hq
  have h1 := h1 r2 M2 hq
  dsimp only at h1
  obtain ⟨g1, g2, g3, h1⟩ := h1
  refine a_icmp_eq (tgt := 1716) hΓ g1 g2 dL_law_1153 (by decide) (fun _ => ?_) (fun c => absurd g3 c)
  exact hk M2 h1
def lc_21 (xs : Nat → Int32) (v3 : Int) (M : Mm) (k : Mm → Prop) : Prop :=
  Bd (wX11_feed (Xi xs (v3 + 1)) (Xi xs (v3 + 2)) (Xi xs (v3 + 3)) (Xi xs (v3 + 4)) (Xi xs (v3 + 5)) M) (fun r1 M1 =>
  Bd (wX12_feed (Xi xs (v3 + 1)) (Xi xs (v3 + 2)) (Xi xs (v3 + 3)) (Xi xs (v3 + 4)) (Xi xs (v3 + 5)) M1) (fun r2 M2 =>
  inR r1 ∧ inR r2 ∧ r1 = r2 ∧ k M2))
set_option maxHeartbeats 4000000 in
theorem s_lc_21 {Γ : Cx} {h kC kS kc ks L : Nat} (hΓ : Ok Γ code RL 4 h kC kS) (hh : 1000 ≤ h) (hkc : kc + 0 ≤ kC ∧ ks + 0 ≤ kS) {xs : Nat → Int32} (hX : LX Γ L xs) (hL : L ≤ 3584) {K : State → Prop} {k : Mm → Prop} {v3 : Int} (hv : 0 ≤ v3 ∧ v3 + 7 ≤ (L : Int)) (hk : ∀ M : Mm, k M → Wa Γ 4 K kc ks 1716 [(0, aR 1000), (1, aR 0), (2, aR 102), (3, aI v3)] [] (NC, RF, M)) (M : Mm) (h1 : lc_21 xs v3 M k) : Wa Γ 4 K kc ks 1158 [(0, aR 1000), (1, aR 0), (2, aR 102), (3, aI v3)] [] (NC, RF, M) := by
  unfold lc_21 at h1
  refine a_aload_n hΓ 1 dL_law_1158 rfl rfl ?_
  refine a_aload_n hΓ 0 dL_law_1159 rfl rfl ?_
  refine a_iload_n hΓ 3 dL_law_1160 rfl rfl ?_
  refine a_iconst hΓ dL_law_1161 ?_
  refine a_iadd hΓ dL_law_1162 ?_
  refine a_sld hΓ hX dL_law_1163 ⟨by omega, by omega⟩ ?_
  refine a_aload_n hΓ 0 dL_law_1164 rfl rfl ?_
  refine a_iload_n hΓ 3 dL_law_1165 rfl rfl ?_
  refine a_iconst hΓ dL_law_1166 ?_
  refine a_iadd hΓ dL_law_1167 ?_
  refine a_sld hΓ hX dL_law_1168 ⟨by omega, by omega⟩ ?_
  refine a_aload_n hΓ 0 dL_law_1169 rfl rfl ?_
  refine a_iload_n hΓ 3 dL_law_1170 rfl rfl ?_
  refine a_iconst hΓ dL_law_1171 ?_
  refine a_iadd hΓ dL_law_1172 ?_
  refine a_sld hΓ hX dL_law_1173 ⟨by omega, by omega⟩ ?_
  refine a_aload_n hΓ 0 dL_law_1174 rfl rfl ?_
  refine a_iload_n hΓ 3 dL_law_1175 rfl rfl ?_
  refine a_iconst hΓ dL_law_1176 ?_
  refine a_iadd hΓ dL_law_1177 ?_
  refine a_sld hΓ hX dL_law_1178 ⟨by omega, by omega⟩ ?_
  refine a_aload_n hΓ 0 dL_law_1179 rfl rfl ?_
  refine a_iload_n hΓ 3 dL_law_1180 rfl rfl ?_
  refine a_iconst hΓ dL_law_1181 ?_
  refine a_iadd hΓ dL_law_1182 ?_
  refine a_sld hΓ hX dL_law_1183 ⟨by omega, by omega⟩ ?_
  obtain ⟨P1, q1, h1⟩ := h1
  refine a_callV (c := 0) (av := [aI (Xi xs (v3 + 1)), aI (Xi xs (v3 + 2)), aI (Xi xs (v3 + 3)), aI (Xi xs (v3 + 4)), aI (Xi xs (v3 + 5))]) (st := []) hΓ (ct_wX11_feed _ _ (Xi xs (v3 + 1)) (Xi xs (v3 + 2)) (Xi xs (v3 + 3)) (Xi xs (v3 + 4)) (Xi xs (v3 + 5)) M P1 q1) my_X11_feed ml_RL_103 ni_X11_feed kd_0 rfl lz_0 rfl (Nat.le_trans (by decide) hh) (by decide) hkc (Nat.le_of_ble_eq_true rfl) rfl dL_law_1184 (fun v Z' hq => ?_)
  obtain ⟨r1, M1, rfl, rfl, hq⟩ := hq
  have h1 := h1 r1 M1 hq
  dsimp only at h1
  refine a_aload_n hΓ 2 dL_law_1187 rfl rfl ?_
  refine a_aload_n hΓ 0 dL_law_1188 rfl rfl ?_
  refine a_iload_n hΓ 3 dL_law_1189 rfl rfl ?_
  refine a_iconst hΓ dL_law_1190 ?_
  refine a_iadd hΓ dL_law_1191 ?_
  refine a_sld hΓ hX dL_law_1192 ⟨by omega, by omega⟩ ?_
  refine a_aload_n hΓ 0 dL_law_1193 rfl rfl ?_
  refine a_iload_n hΓ 3 dL_law_1194 rfl rfl ?_
  refine a_iconst hΓ dL_law_1195 ?_
  refine a_iadd hΓ dL_law_1196 ?_
  refine a_sld hΓ hX dL_law_1197 ⟨by omega, by omega⟩ ?_
  refine a_aload_n hΓ 0 dL_law_1198 rfl rfl ?_
  refine a_iload_n hΓ 3 dL_law_1199 rfl rfl ?_
  refine a_iconst hΓ dL_law_1200 ?_
  refine a_iadd hΓ dL_law_1201 ?_
  refine a_sld hΓ hX dL_law_1202 ⟨by omega, by omega⟩ ?_
  refine a_aload_n hΓ 0 dL_law_1203 rfl rfl ?_
  refine a_iload_n hΓ 3 dL_law_1204 rfl rfl ?_
  refine a_iconst hΓ dL_law_1205 ?_
  refine a_iadd hΓ dL_law_1206 ?_
  refine a_sld hΓ hX dL_law_1207 ⟨by omega, by omega⟩ ?_
  refine a_aload_n hΓ 0 dL_law_1208 rfl rfl ?_
  refine a_iload_n hΓ 3 dL_law_1209 rfl rfl ?_
  refine a_iconst hΓ dL_law_1210 ?_
  refine a_iadd hΓ dL_law_1211 ?_
  refine a_sld hΓ hX dL_law_1212 ⟨by omega, by omega⟩ ?_
  obtain ⟨P2, q2, h1⟩ := h1
  refine a_callV (c := 102) (av := [aI (Xi xs (v3 + 1)), aI (Xi xs (v3 + 2)), aI (Xi xs (v3 + 3)), aI (Xi xs (v3 + 4)), aI (Xi xs (v3 + 5))]) (st := [aI r1]) hΓ (ct_wX12_feed _ _ (Xi xs (v3 + 1)) (Xi xs (v3 + 2)) (Xi xs (v3 + 3)) (Xi xs (v3 + 4)) (Xi xs (v3 + 5)) M1 P2 q2) my_X12_feed ml_RL_107 ni_X12_feed kd_102 rfl lz_102 rfl (Nat.le_trans (by decide) hh) (by decide) hkc (Nat.le_of_ble_eq_true rfl) rfl dL_law_1213 (fun v Z' hq => ?_)
  obtain ⟨r2, M2, rfl, rfl, hq⟩ := hq
  have h1 := h1 r2 M2 hq
  dsimp only at h1
  obtain ⟨g1, g2, g3, h1⟩ := h1
  refine a_icmp_eq (tgt := 1716) hΓ g1 g2 dL_law_1216 (by decide) (fun _ => ?_) (fun c => absurd g3 c)
  exact hk M2 h1
def lc_22 (xs : Nat → Int32) (v3 : Int) (M : Mm) (k : Mm → Prop) : Prop :=
  Bd (wX11_end (Xi xs (v3 + 1)) M) (fun r1 M1 =>
  Bd (wX12_end (Xi xs (v3 + 1)) M1) (fun r2 M2 =>
  inR r1 ∧ inR r2 ∧ r1 = r2 ∧ k M2))
set_option maxHeartbeats 4000000 in
theorem s_lc_22 {Γ : Cx} {h kC kS kc ks L : Nat} (hΓ : Ok Γ code RL 4 h kC kS) (hh : 1000 ≤ h) (hkc : kc + 0 ≤ kC ∧ ks + 0 ≤ kS) {xs : Nat → Int32} (hX : LX Γ L xs) (hL : L ≤ 3584) {K : State → Prop} {k : Mm → Prop} {v3 : Int} (hv : 0 ≤ v3 ∧ v3 + 7 ≤ (L : Int)) (hk : ∀ M : Mm, k M → Wa Γ 4 K kc ks 1716 [(0, aR 1000), (1, aR 0), (2, aR 102), (3, aI v3)] [] (NC, RF, M)) (M : Mm) (h1 : lc_22 xs v3 M k) : Wa Γ 4 K kc ks 1221 [(0, aR 1000), (1, aR 0), (2, aR 102), (3, aI v3)] [] (NC, RF, M) := by
  unfold lc_22 at h1
  refine a_aload_n hΓ 1 dL_law_1221 rfl rfl ?_
  refine a_aload_n hΓ 0 dL_law_1222 rfl rfl ?_
  refine a_iload_n hΓ 3 dL_law_1223 rfl rfl ?_
  refine a_iconst hΓ dL_law_1224 ?_
  refine a_iadd hΓ dL_law_1225 ?_
  refine a_sld hΓ hX dL_law_1226 ⟨by omega, by omega⟩ ?_
  obtain ⟨P1, q1, h1⟩ := h1
  refine a_callV (c := 0) (av := [aI (Xi xs (v3 + 1))]) (st := []) hΓ (ct_wX11_end _ _ (Xi xs (v3 + 1)) M P1 q1) my_X11_end ml_RL_108 ni_X11_end kd_0 rfl lz_0 rfl (Nat.le_trans (by decide) hh) (by decide) hkc (Nat.le_of_ble_eq_true rfl) rfl dL_law_1227 (fun v Z' hq => ?_)
  obtain ⟨r1, M1, rfl, rfl, hq⟩ := hq
  have h1 := h1 r1 M1 hq
  dsimp only at h1
  refine a_aload_n hΓ 2 dL_law_1230 rfl rfl ?_
  refine a_aload_n hΓ 0 dL_law_1231 rfl rfl ?_
  refine a_iload_n hΓ 3 dL_law_1232 rfl rfl ?_
  refine a_iconst hΓ dL_law_1233 ?_
  refine a_iadd hΓ dL_law_1234 ?_
  refine a_sld hΓ hX dL_law_1235 ⟨by omega, by omega⟩ ?_
  obtain ⟨P2, q2, h1⟩ := h1
  refine a_callV (c := 102) (av := [aI (Xi xs (v3 + 1))]) (st := [aI r1]) hΓ (ct_wX12_end _ _ (Xi xs (v3 + 1)) M1 P2 q2) my_X12_end ml_RL_111 ni_X12_end kd_102 rfl lz_102 rfl (Nat.le_trans (by decide) hh) (by decide) hkc (Nat.le_of_ble_eq_true rfl) rfl dL_law_1236 (fun v Z' hq => ?_)
  obtain ⟨r2, M2, rfl, rfl, hq⟩ := hq
  have h1 := h1 r2 M2 hq
  dsimp only at h1
  obtain ⟨g1, g2, g3, h1⟩ := h1
  refine a_icmp_eq (tgt := 1716) hΓ g1 g2 dL_law_1239 (by decide) (fun _ => ?_) (fun c => absurd g3 c)
  exact hk M2 h1
def lc_23 (xs : Nat → Int32) (v3 : Int) (M : Mm) (k : Mm → Prop) : Prop :=
  Bd (wX11_check (Xi xs (v3 + 1)) (Xi xs (v3 + 2)) (Xi xs (v3 + 3)) M) (fun r1 M1 =>
  Bd (wX12_check (Xi xs (v3 + 1)) (Xi xs (v3 + 2)) (Xi xs (v3 + 3)) M1) (fun r2 M2 =>
  inR r1 ∧ inR r2 ∧ r1 = r2 ∧ k M2))
set_option maxHeartbeats 4000000 in
theorem s_lc_23 {Γ : Cx} {h kC kS kc ks L : Nat} (hΓ : Ok Γ code RL 4 h kC kS) (hh : 1000 ≤ h) (hkc : kc + 0 ≤ kC ∧ ks + 0 ≤ kS) {xs : Nat → Int32} (hX : LX Γ L xs) (hL : L ≤ 3584) {K : State → Prop} {k : Mm → Prop} {v3 : Int} (hv : 0 ≤ v3 ∧ v3 + 7 ≤ (L : Int)) (hk : ∀ M : Mm, k M → Wa Γ 4 K kc ks 1716 [(0, aR 1000), (1, aR 0), (2, aR 102), (3, aI v3)] [] (NC, RF, M)) (M : Mm) (h1 : lc_23 xs v3 M k) : Wa Γ 4 K kc ks 1244 [(0, aR 1000), (1, aR 0), (2, aR 102), (3, aI v3)] [] (NC, RF, M) := by
  unfold lc_23 at h1
  refine a_aload_n hΓ 1 dL_law_1244 rfl rfl ?_
  refine a_aload_n hΓ 0 dL_law_1245 rfl rfl ?_
  refine a_iload_n hΓ 3 dL_law_1246 rfl rfl ?_
  refine a_iconst hΓ dL_law_1247 ?_
  refine a_iadd hΓ dL_law_1248 ?_
  refine a_sld hΓ hX dL_law_1249 ⟨by omega, by omega⟩ ?_
  refine a_aload_n hΓ 0 dL_law_1250 rfl rfl ?_
  refine a_iload_n hΓ 3 dL_law_1251 rfl rfl ?_
  refine a_iconst hΓ dL_law_1252 ?_
  refine a_iadd hΓ dL_law_1253 ?_
  refine a_sld hΓ hX dL_law_1254 ⟨by omega, by omega⟩ ?_
  refine a_aload_n hΓ 0 dL_law_1255 rfl rfl ?_
  refine a_iload_n hΓ 3 dL_law_1256 rfl rfl ?_
  refine a_iconst hΓ dL_law_1257 ?_
  refine a_iadd hΓ dL_law_1258 ?_
  refine a_sld hΓ hX dL_law_1259 ⟨by omega, by omega⟩ ?_
  obtain ⟨P1, q1, h1⟩ := h1
  refine a_callV (c := 0) (av := [aI (Xi xs (v3 + 1)), aI (Xi xs (v3 + 2)), aI (Xi xs (v3 + 3))]) (st := []) hΓ (ct_wX11_check _ _ (Xi xs (v3 + 1)) (Xi xs (v3 + 2)) (Xi xs (v3 + 3)) M P1 q1) my_X11_check ml_RL_112 ni_X11_check kd_0 rfl lz_0 rfl (Nat.le_trans (by decide) hh) (by decide) hkc (Nat.le_of_ble_eq_true rfl) rfl dL_law_1260 (fun v Z' hq => ?_)
  obtain ⟨r1, M1, rfl, rfl, hq⟩ := hq
  have h1 := h1 r1 M1 hq
  dsimp only at h1
  refine a_aload_n hΓ 2 dL_law_1263 rfl rfl ?_
  refine a_aload_n hΓ 0 dL_law_1264 rfl rfl ?_
  refine a_iload_n hΓ 3 dL_law_1265 rfl rfl ?_
  refine a_iconst hΓ dL_law_1266 ?_
  refine a_iadd hΓ dL_law_1267 ?_
  refine a_sld hΓ hX dL_law_1268 ⟨by omega, by omega⟩ ?_
  refine a_aload_n hΓ 0 dL_law_1269 rfl rfl ?_
  refine a_iload_n hΓ 3 dL_law_1270 rfl rfl ?_
  refine a_iconst hΓ dL_law_1271 ?_
  refine a_iadd hΓ dL_law_1272 ?_
  refine a_sld hΓ hX dL_law_1273 ⟨by omega, by omega⟩ ?_
  refine a_aload_n hΓ 0 dL_law_1274 rfl rfl ?_
  refine a_iload_n hΓ 3 dL_law_1275 rfl rfl ?_
  refine a_iconst hΓ dL_law_1276 ?_
  refine a_iadd hΓ dL_law_1277 ?_
  refine a_sld hΓ hX dL_law_1278 ⟨by omega, by omega⟩ ?_
  obtain ⟨P2, q2, h1⟩ := h1
  refine a_callV (c := 102) (av := [aI (Xi xs (v3 + 1)), aI (Xi xs (v3 + 2)), aI (Xi xs (v3 + 3))]) (st := [aI r1]) hΓ (ct_wX12_check _ _ (Xi xs (v3 + 1)) (Xi xs (v3 + 2)) (Xi xs (v3 + 3)) M1 P2 q2) my_X12_check ml_RL_115 ni_X12_check kd_102 rfl lz_102 rfl (Nat.le_trans (by decide) hh) (by decide) hkc (Nat.le_of_ble_eq_true rfl) rfl dL_law_1279 (fun v Z' hq => ?_)
  obtain ⟨r2, M2, rfl, rfl, hq⟩ := hq
  have h1 := h1 r2 M2 hq
  dsimp only at h1
  obtain ⟨g1, g2, g3, h1⟩ := h1
  refine a_icmp_eq (tgt := 1716) hΓ g1 g2 dL_law_1282 (by decide) (fun _ => ?_) (fun c => absurd g3 c)
  exact hk M2 h1
def lc_24 (xs : Nat → Int32) (v3 : Int) (M : Mm) (k : Mm → Prop) : Prop :=
  Bd (wX11_fault M) (fun r1 M1 =>
  Bd (wX12_fault M1) (fun r2 M2 =>
  inR r1 ∧ inR r2 ∧ r1 = r2 ∧ k M2))
set_option maxHeartbeats 4000000 in
theorem s_lc_24 {Γ : Cx} {h kC kS kc ks L : Nat} (hΓ : Ok Γ code RL 4 h kC kS) (hh : 1000 ≤ h) (hkc : kc + 0 ≤ kC ∧ ks + 0 ≤ kS) {xs : Nat → Int32} (hX : LX Γ L xs) (hL : L ≤ 3584) {K : State → Prop} {k : Mm → Prop} {v3 : Int} (hv : 0 ≤ v3 ∧ v3 + 7 ≤ (L : Int)) (hk : ∀ M : Mm, k M → Wa Γ 4 K kc ks 1716 [(0, aR 1000), (1, aR 0), (2, aR 102), (3, aI v3)] [] (NC, RF, M)) (M : Mm) (h1 : lc_24 xs v3 M k) : Wa Γ 4 K kc ks 1287 [(0, aR 1000), (1, aR 0), (2, aR 102), (3, aI v3)] [] (NC, RF, M) := by
  unfold lc_24 at h1
  refine a_aload_n hΓ 1 dL_law_1287 rfl rfl ?_
  obtain ⟨P1, q1, h1⟩ := h1
  refine a_callV (c := 0) (av := []) (st := []) hΓ (ct_wX11_fault _ _  M P1 q1) my_X11_fault ml_RL_116 ni_X11_fault kd_0 rfl lz_0 rfl (Nat.le_trans (by decide) hh) (by decide) hkc (Nat.le_of_ble_eq_true rfl) rfl dL_law_1288 (fun v Z' hq => ?_)
  obtain ⟨r1, M1, rfl, rfl, hq⟩ := hq
  have h1 := h1 r1 M1 hq
  dsimp only at h1
  refine a_aload_n hΓ 2 dL_law_1291 rfl rfl ?_
  obtain ⟨P2, q2, h1⟩ := h1
  refine a_callV (c := 102) (av := []) (st := [aI r1]) hΓ (ct_wX12_fault _ _  M1 P2 q2) my_X12_fault ml_RL_120 ni_X12_fault kd_102 rfl lz_102 rfl (Nat.le_trans (by decide) hh) (by decide) hkc (Nat.le_of_ble_eq_true rfl) rfl dL_law_1292 (fun v Z' hq => ?_)
  obtain ⟨r2, M2, rfl, rfl, hq⟩ := hq
  have h1 := h1 r2 M2 hq
  dsimp only at h1
  obtain ⟨g1, g2, g3, h1⟩ := h1
  refine a_icmp_eq (tgt := 1716) hΓ g1 g2 dL_law_1295 (by decide) (fun _ => ?_) (fun c => absurd g3 c)
  exact hk M2 h1
def lc_25 (xs : Nat → Int32) (v3 : Int) (M : Mm) (k : Mm → Prop) : Prop :=
  Bd (wX11_miss (Xi xs (v3 + 1)) (Xi xs (v3 + 2)) M) (fun r1 M1 =>
  Bd (wX12_miss (Xi xs (v3 + 1)) (Xi xs (v3 + 2)) M1) (fun r2 M2 =>
  inR r1 ∧ inR r2 ∧ r1 = r2 ∧ k M2))
set_option maxHeartbeats 4000000 in
theorem s_lc_25 {Γ : Cx} {h kC kS kc ks L : Nat} (hΓ : Ok Γ code RL 4 h kC kS) (hh : 1000 ≤ h) (hkc : kc + 0 ≤ kC ∧ ks + 0 ≤ kS) {xs : Nat → Int32} (hX : LX Γ L xs) (hL : L ≤ 3584) {K : State → Prop} {k : Mm → Prop} {v3 : Int} (hv : 0 ≤ v3 ∧ v3 + 7 ≤ (L : Int)) (hk : ∀ M : Mm, k M → Wa Γ 4 K kc ks 1716 [(0, aR 1000), (1, aR 0), (2, aR 102), (3, aI v3)] [] (NC, RF, M)) (M : Mm) (h1 : lc_25 xs v3 M k) : Wa Γ 4 K kc ks 1300 [(0, aR 1000), (1, aR 0), (2, aR 102), (3, aI v3)] [] (NC, RF, M) := by
  unfold lc_25 at h1
  refine a_aload_n hΓ 1 dL_law_1300 rfl rfl ?_
  refine a_aload_n hΓ 0 dL_law_1301 rfl rfl ?_
  refine a_iload_n hΓ 3 dL_law_1302 rfl rfl ?_
  refine a_iconst hΓ dL_law_1303 ?_
  refine a_iadd hΓ dL_law_1304 ?_
  refine a_sld hΓ hX dL_law_1305 ⟨by omega, by omega⟩ ?_
  refine a_aload_n hΓ 0 dL_law_1306 rfl rfl ?_
  refine a_iload_n hΓ 3 dL_law_1307 rfl rfl ?_
  refine a_iconst hΓ dL_law_1308 ?_
  refine a_iadd hΓ dL_law_1309 ?_
  refine a_sld hΓ hX dL_law_1310 ⟨by omega, by omega⟩ ?_
  obtain ⟨P1, q1, h1⟩ := h1
  refine a_callV (c := 0) (av := [aI (Xi xs (v3 + 1)), aI (Xi xs (v3 + 2))]) (st := []) hΓ (ct_wX11_miss _ _ (Xi xs (v3 + 1)) (Xi xs (v3 + 2)) M P1 q1) my_X11_miss ml_RL_121 ni_X11_miss kd_0 rfl lz_0 rfl (Nat.le_trans (by decide) hh) (by decide) hkc (Nat.le_of_ble_eq_true rfl) rfl dL_law_1311 (fun v Z' hq => ?_)
  obtain ⟨r1, M1, rfl, rfl, hq⟩ := hq
  have h1 := h1 r1 M1 hq
  dsimp only at h1
  refine a_aload_n hΓ 2 dL_law_1314 rfl rfl ?_
  refine a_aload_n hΓ 0 dL_law_1315 rfl rfl ?_
  refine a_iload_n hΓ 3 dL_law_1316 rfl rfl ?_
  refine a_iconst hΓ dL_law_1317 ?_
  refine a_iadd hΓ dL_law_1318 ?_
  refine a_sld hΓ hX dL_law_1319 ⟨by omega, by omega⟩ ?_
  refine a_aload_n hΓ 0 dL_law_1320 rfl rfl ?_
  refine a_iload_n hΓ 3 dL_law_1321 rfl rfl ?_
  refine a_iconst hΓ dL_law_1322 ?_
  refine a_iadd hΓ dL_law_1323 ?_
  refine a_sld hΓ hX dL_law_1324 ⟨by omega, by omega⟩ ?_
  obtain ⟨P2, q2, h1⟩ := h1
  refine a_callV (c := 102) (av := [aI (Xi xs (v3 + 1)), aI (Xi xs (v3 + 2))]) (st := [aI r1]) hΓ (ct_wX12_miss _ _ (Xi xs (v3 + 1)) (Xi xs (v3 + 2)) M1 P2 q2) my_X12_miss ml_RL_124 ni_X12_miss kd_102 rfl lz_102 rfl (Nat.le_trans (by decide) hh) (by decide) hkc (Nat.le_of_ble_eq_true rfl) rfl dL_law_1325 (fun v Z' hq => ?_)
  obtain ⟨r2, M2, rfl, rfl, hq⟩ := hq
  have h1 := h1 r2 M2 hq
  dsimp only at h1
  obtain ⟨g1, g2, g3, h1⟩ := h1
  refine a_icmp_eq (tgt := 1716) hΓ g1 g2 dL_law_1328 (by decide) (fun _ => ?_) (fun c => absurd g3 c)
  exact hk M2 h1
def lc_26 (xs : Nat → Int32) (v3 : Int) (M : Mm) (k : Mm → Prop) : Prop :=
  Bd (wX11_curve (Xi xs (v3 + 1)) M) (fun r1 M1 =>
  Bd (wX12_curve (Xi xs (v3 + 1)) M1) (fun r2 M2 =>
  inR r1 ∧ inR r2 ∧ r1 = r2 ∧ k M2))
set_option maxHeartbeats 4000000 in
theorem s_lc_26 {Γ : Cx} {h kC kS kc ks L : Nat} (hΓ : Ok Γ code RL 4 h kC kS) (hh : 1000 ≤ h) (hkc : kc + 0 ≤ kC ∧ ks + 0 ≤ kS) {xs : Nat → Int32} (hX : LX Γ L xs) (hL : L ≤ 3584) {K : State → Prop} {k : Mm → Prop} {v3 : Int} (hv : 0 ≤ v3 ∧ v3 + 7 ≤ (L : Int)) (hk : ∀ M : Mm, k M → Wa Γ 4 K kc ks 1716 [(0, aR 1000), (1, aR 0), (2, aR 102), (3, aI v3)] [] (NC, RF, M)) (M : Mm) (h1 : lc_26 xs v3 M k) : Wa Γ 4 K kc ks 1333 [(0, aR 1000), (1, aR 0), (2, aR 102), (3, aI v3)] [] (NC, RF, M) := by
  unfold lc_26 at h1
  refine a_aload_n hΓ 1 dL_law_1333 rfl rfl ?_
  refine a_aload_n hΓ 0 dL_law_1334 rfl rfl ?_
  refine a_iload_n hΓ 3 dL_law_1335 rfl rfl ?_
  refine a_iconst hΓ dL_law_1336 ?_
  refine a_iadd hΓ dL_law_1337 ?_
  refine a_sld hΓ hX dL_law_1338 ⟨by omega, by omega⟩ ?_
  obtain ⟨P1, q1, h1⟩ := h1
  refine a_callV (c := 0) (av := [aI (Xi xs (v3 + 1))]) (st := []) hΓ (ct_wX11_curve _ _ (Xi xs (v3 + 1)) M P1 q1) my_X11_curve ml_RL_125 ni_X11_curve kd_0 rfl lz_0 rfl (Nat.le_trans (by decide) hh) (by decide) hkc (Nat.le_of_ble_eq_true rfl) rfl dL_law_1339 (fun v Z' hq => ?_)
  obtain ⟨r1, M1, rfl, rfl, hq⟩ := hq
  have h1 := h1 r1 M1 hq
  dsimp only at h1
  refine a_aload_n hΓ 2 dL_law_1342 rfl rfl ?_
  refine a_aload_n hΓ 0 dL_law_1343 rfl rfl ?_
  refine a_iload_n hΓ 3 dL_law_1344 rfl rfl ?_
  refine a_iconst hΓ dL_law_1345 ?_
  refine a_iadd hΓ dL_law_1346 ?_
  refine a_sld hΓ hX dL_law_1347 ⟨by omega, by omega⟩ ?_
  obtain ⟨P2, q2, h1⟩ := h1
  refine a_callV (c := 102) (av := [aI (Xi xs (v3 + 1))]) (st := [aI r1]) hΓ (ct_wX12_curve _ _ (Xi xs (v3 + 1)) M1 P2 q2) my_X12_curve ml_RL_128 ni_X12_curve kd_102 rfl lz_102 rfl (Nat.le_trans (by decide) hh) (by decide) hkc (Nat.le_of_ble_eq_true rfl) rfl dL_law_1348 (fun v Z' hq => ?_)
  obtain ⟨r2, M2, rfl, rfl, hq⟩ := hq
  have h1 := h1 r2 M2 hq
  dsimp only at h1
  obtain ⟨g1, g2, g3, h1⟩ := h1
  refine a_icmp_eq (tgt := 1716) hΓ g1 g2 dL_law_1351 (by decide) (fun _ => ?_) (fun c => absurd g3 c)
  exact hk M2 h1
def lc_27 (xs : Nat → Int32) (v3 : Int) (M : Mm) (k : Mm → Prop) : Prop :=
  Bd (wX11_hidden (Xi xs (v3 + 1)) (Xi xs (v3 + 2)) (Xi xs (v3 + 3)) M) (fun r1 M1 =>
  Bd (wX12_hidden (Xi xs (v3 + 1)) (Xi xs (v3 + 2)) (Xi xs (v3 + 3)) M1) (fun r2 M2 =>
  inR r1 ∧ inR r2 ∧ r1 = r2 ∧ k M2))
set_option maxHeartbeats 4000000 in
theorem s_lc_27 {Γ : Cx} {h kC kS kc ks L : Nat} (hΓ : Ok Γ code RL 4 h kC kS) (hh : 1000 ≤ h) (hkc : kc + 0 ≤ kC ∧ ks + 0 ≤ kS) {xs : Nat → Int32} (hX : LX Γ L xs) (hL : L ≤ 3584) {K : State → Prop} {k : Mm → Prop} {v3 : Int} (hv : 0 ≤ v3 ∧ v3 + 7 ≤ (L : Int)) (hk : ∀ M : Mm, k M → Wa Γ 4 K kc ks 1716 [(0, aR 1000), (1, aR 0), (2, aR 102), (3, aI v3)] [] (NC, RF, M)) (M : Mm) (h1 : lc_27 xs v3 M k) : Wa Γ 4 K kc ks 1356 [(0, aR 1000), (1, aR 0), (2, aR 102), (3, aI v3)] [] (NC, RF, M) := by
  unfold lc_27 at h1
  refine a_aload_n hΓ 1 dL_law_1356 rfl rfl ?_
  refine a_aload_n hΓ 0 dL_law_1357 rfl rfl ?_
  refine a_iload_n hΓ 3 dL_law_1358 rfl rfl ?_
  refine a_iconst hΓ dL_law_1359 ?_
  refine a_iadd hΓ dL_law_1360 ?_
  refine a_sld hΓ hX dL_law_1361 ⟨by omega, by omega⟩ ?_
  refine a_aload_n hΓ 0 dL_law_1362 rfl rfl ?_
  refine a_iload_n hΓ 3 dL_law_1363 rfl rfl ?_
  refine a_iconst hΓ dL_law_1364 ?_
  refine a_iadd hΓ dL_law_1365 ?_
  refine a_sld hΓ hX dL_law_1366 ⟨by omega, by omega⟩ ?_
  refine a_aload_n hΓ 0 dL_law_1367 rfl rfl ?_
  refine a_iload_n hΓ 3 dL_law_1368 rfl rfl ?_
  refine a_iconst hΓ dL_law_1369 ?_
  refine a_iadd hΓ dL_law_1370 ?_
  refine a_sld hΓ hX dL_law_1371 ⟨by omega, by omega⟩ ?_
  obtain ⟨P1, q1, h1⟩ := h1
  refine a_callV (c := 0) (av := [aI (Xi xs (v3 + 1)), aI (Xi xs (v3 + 2)), aI (Xi xs (v3 + 3))]) (st := []) hΓ (ct_wX11_hidden _ _ (Xi xs (v3 + 1)) (Xi xs (v3 + 2)) (Xi xs (v3 + 3)) M P1 q1) my_X11_hidden ml_RL_129 ni_X11_hidden kd_0 rfl lz_0 rfl (Nat.le_trans (by decide) hh) (by decide) hkc (Nat.le_of_ble_eq_true rfl) rfl dL_law_1372 (fun v Z' hq => ?_)
  obtain ⟨r1, M1, rfl, rfl, hq⟩ := hq
  have h1 := h1 r1 M1 hq
  dsimp only at h1
  refine a_aload_n hΓ 2 dL_law_1375 rfl rfl ?_
  refine a_aload_n hΓ 0 dL_law_1376 rfl rfl ?_
  refine a_iload_n hΓ 3 dL_law_1377 rfl rfl ?_
  refine a_iconst hΓ dL_law_1378 ?_
  refine a_iadd hΓ dL_law_1379 ?_
  refine a_sld hΓ hX dL_law_1380 ⟨by omega, by omega⟩ ?_
  refine a_aload_n hΓ 0 dL_law_1381 rfl rfl ?_
  refine a_iload_n hΓ 3 dL_law_1382 rfl rfl ?_
  refine a_iconst hΓ dL_law_1383 ?_
  refine a_iadd hΓ dL_law_1384 ?_
  refine a_sld hΓ hX dL_law_1385 ⟨by omega, by omega⟩ ?_
  refine a_aload_n hΓ 0 dL_law_1386 rfl rfl ?_
  refine a_iload_n hΓ 3 dL_law_1387 rfl rfl ?_
  refine a_iconst hΓ dL_law_1388 ?_
  refine a_iadd hΓ dL_law_1389 ?_
  refine a_sld hΓ hX dL_law_1390 ⟨by omega, by omega⟩ ?_
  obtain ⟨P2, q2, h1⟩ := h1
  refine a_callV (c := 102) (av := [aI (Xi xs (v3 + 1)), aI (Xi xs (v3 + 2)), aI (Xi xs (v3 + 3))]) (st := [aI r1]) hΓ (ct_wX12_hidden _ _ (Xi xs (v3 + 1)) (Xi xs (v3 + 2)) (Xi xs (v3 + 3)) M1 P2 q2) my_X12_hidden ml_RL_132 ni_X12_hidden kd_102 rfl lz_102 rfl (Nat.le_trans (by decide) hh) (by decide) hkc (Nat.le_of_ble_eq_true rfl) rfl dL_law_1391 (fun v Z' hq => ?_)
  obtain ⟨r2, M2, rfl, rfl, hq⟩ := hq
  have h1 := h1 r2 M2 hq
  dsimp only at h1
  obtain ⟨g1, g2, g3, h1⟩ := h1
  refine a_icmp_eq (tgt := 1716) hΓ g1 g2 dL_law_1394 (by decide) (fun _ => ?_) (fun c => absurd g3 c)
  exact hk M2 h1
def lc_28 (xs : Nat → Int32) (v3 : Int) (M : Mm) (k : Mm → Prop) : Prop :=
  Bd (wX11_hid (Xi xs (v3 + 1)) M) (fun r1 M1 =>
  Bd (wX12_hid (Xi xs (v3 + 1)) M1) (fun r2 M2 =>
  inR r1 ∧ inR r2 ∧ r1 = r2 ∧ k M2))
set_option maxHeartbeats 4000000 in
theorem s_lc_28 {Γ : Cx} {h kC kS kc ks L : Nat} (hΓ : Ok Γ code RL 4 h kC kS) (hh : 1000 ≤ h) (hkc : kc + 0 ≤ kC ∧ ks + 0 ≤ kS) {xs : Nat → Int32} (hX : LX Γ L xs) (hL : L ≤ 3584) {K : State → Prop} {k : Mm → Prop} {v3 : Int} (hv : 0 ≤ v3 ∧ v3 + 7 ≤ (L : Int)) (hk : ∀ M : Mm, k M → Wa Γ 4 K kc ks 1716 [(0, aR 1000), (1, aR 0), (2, aR 102), (3, aI v3)] [] (NC, RF, M)) (M : Mm) (h1 : lc_28 xs v3 M k) : Wa Γ 4 K kc ks 1399 [(0, aR 1000), (1, aR 0), (2, aR 102), (3, aI v3)] [] (NC, RF, M) := by
  unfold lc_28 at h1
  refine a_aload_n hΓ 1 dL_law_1399 rfl rfl ?_
  refine a_aload_n hΓ 0 dL_law_1400 rfl rfl ?_
  refine a_iload_n hΓ 3 dL_law_1401 rfl rfl ?_
  refine a_iconst hΓ dL_law_1402 ?_
  refine a_iadd hΓ dL_law_1403 ?_
  refine a_sld hΓ hX dL_law_1404 ⟨by omega, by omega⟩ ?_
  obtain ⟨P1, q1, h1⟩ := h1
  refine a_callV (c := 0) (av := [aI (Xi xs (v3 + 1))]) (st := []) hΓ (ct_wX11_hid _ _ (Xi xs (v3 + 1)) M P1 q1) my_X11_hid ml_RL_133 ni_X11_hid kd_0 rfl lz_0 rfl (Nat.le_trans (by decide) hh) (by decide) hkc (Nat.le_of_ble_eq_true rfl) rfl dL_law_1405 (fun v Z' hq => ?_)
  obtain ⟨r1, M1, rfl, rfl, hq⟩ := hq
  have h1 := h1 r1 M1 hq
  dsimp only at h1
  refine a_aload_n hΓ 2 dL_law_1408 rfl rfl ?_
  refine a_aload_n hΓ 0 dL_law_1409 rfl rfl ?_
  refine a_iload_n hΓ 3 dL_law_1410 rfl rfl ?_
  refine a_iconst hΓ dL_law_1411 ?_
  refine a_iadd hΓ dL_law_1412 ?_
  refine a_sld hΓ hX dL_law_1413 ⟨by omega, by omega⟩ ?_
  obtain ⟨P2, q2, h1⟩ := h1
  refine a_callV (c := 102) (av := [aI (Xi xs (v3 + 1))]) (st := [aI r1]) hΓ (ct_wX12_hid _ _ (Xi xs (v3 + 1)) M1 P2 q2) my_X12_hid ml_RL_136 ni_X12_hid kd_102 rfl lz_102 rfl (Nat.le_trans (by decide) hh) (by decide) hkc (Nat.le_of_ble_eq_true rfl) rfl dL_law_1414 (fun v Z' hq => ?_)
  obtain ⟨r2, M2, rfl, rfl, hq⟩ := hq
  have h1 := h1 r2 M2 hq
  dsimp only at h1
  obtain ⟨g1, g2, g3, h1⟩ := h1
  refine a_icmp_eq (tgt := 1716) hΓ g1 g2 dL_law_1417 (by decide) (fun _ => ?_) (fun c => absurd g3 c)
  exact hk M2 h1
def lc_29 (xs : Nat → Int32) (v3 : Int) (M : Mm) (k : Mm → Prop) : Prop :=
  Bd (wX11_call (Xi xs (v3 + 1)) M) (fun r1 M1 =>
  Bd (wX12_call (Xi xs (v3 + 1)) M1) (fun r2 M2 =>
  inR r1 ∧ inR r2 ∧ r1 = r2 ∧ k M2))
set_option maxHeartbeats 4000000 in
theorem s_lc_29 {Γ : Cx} {h kC kS kc ks L : Nat} (hΓ : Ok Γ code RL 4 h kC kS) (hh : 1000 ≤ h) (hkc : kc + 0 ≤ kC ∧ ks + 0 ≤ kS) {xs : Nat → Int32} (hX : LX Γ L xs) (hL : L ≤ 3584) {K : State → Prop} {k : Mm → Prop} {v3 : Int} (hv : 0 ≤ v3 ∧ v3 + 7 ≤ (L : Int)) (hk : ∀ M : Mm, k M → Wa Γ 4 K kc ks 1716 [(0, aR 1000), (1, aR 0), (2, aR 102), (3, aI v3)] [] (NC, RF, M)) (M : Mm) (h1 : lc_29 xs v3 M k) : Wa Γ 4 K kc ks 1422 [(0, aR 1000), (1, aR 0), (2, aR 102), (3, aI v3)] [] (NC, RF, M) := by
  unfold lc_29 at h1
  refine a_aload_n hΓ 1 dL_law_1422 rfl rfl ?_
  refine a_aload_n hΓ 0 dL_law_1423 rfl rfl ?_
  refine a_iload_n hΓ 3 dL_law_1424 rfl rfl ?_
  refine a_iconst hΓ dL_law_1425 ?_
  refine a_iadd hΓ dL_law_1426 ?_
  refine a_sld hΓ hX dL_law_1427 ⟨by omega, by omega⟩ ?_
  obtain ⟨P1, q1, h1⟩ := h1
  refine a_callV (c := 0) (av := [aI (Xi xs (v3 + 1))]) (st := []) hΓ (ct_wX11_call _ _ (Xi xs (v3 + 1)) M P1 q1) my_X11_call ml_RL_137 ni_X11_call kd_0 rfl lz_0 rfl (Nat.le_trans (by decide) hh) (by decide) hkc (Nat.le_of_ble_eq_true rfl) rfl dL_law_1428 (fun v Z' hq => ?_)
  obtain ⟨r1, M1, rfl, rfl, hq⟩ := hq
  have h1 := h1 r1 M1 hq
  dsimp only at h1
  refine a_aload_n hΓ 2 dL_law_1431 rfl rfl ?_
  refine a_aload_n hΓ 0 dL_law_1432 rfl rfl ?_
  refine a_iload_n hΓ 3 dL_law_1433 rfl rfl ?_
  refine a_iconst hΓ dL_law_1434 ?_
  refine a_iadd hΓ dL_law_1435 ?_
  refine a_sld hΓ hX dL_law_1436 ⟨by omega, by omega⟩ ?_
  obtain ⟨P2, q2, h1⟩ := h1
  refine a_callV (c := 102) (av := [aI (Xi xs (v3 + 1))]) (st := [aI r1]) hΓ (ct_wX12_call _ _ (Xi xs (v3 + 1)) M1 P2 q2) my_X12_call ml_RL_140 ni_X12_call kd_102 rfl lz_102 rfl (Nat.le_trans (by decide) hh) (by decide) hkc (Nat.le_of_ble_eq_true rfl) rfl dL_law_1437 (fun v Z' hq => ?_)
  obtain ⟨r2, M2, rfl, rfl, hq⟩ := hq
  have h1 := h1 r2 M2 hq
  dsimp only at h1
  obtain ⟨g1, g2, g3, h1⟩ := h1
  refine a_icmp_eq (tgt := 1716) hΓ g1 g2 dL_law_1440 (by decide) (fun _ => ?_) (fun c => absurd g3 c)
  exact hk M2 h1
def lc_30 (xs : Nat → Int32) (v3 : Int) (M : Mm) (k : Mm → Prop) : Prop :=
  Bd (wX11_clear M) (fun r1 M1 =>
  Bd (wX12_clear M1) (fun r2 M2 =>
  inR r1 ∧ inR r2 ∧ r1 = r2 ∧ k M2))
set_option maxHeartbeats 4000000 in
theorem s_lc_30 {Γ : Cx} {h kC kS kc ks L : Nat} (hΓ : Ok Γ code RL 4 h kC kS) (hh : 1000 ≤ h) (hkc : kc + 0 ≤ kC ∧ ks + 0 ≤ kS) {xs : Nat → Int32} (hX : LX Γ L xs) (hL : L ≤ 3584) {K : State → Prop} {k : Mm → Prop} {v3 : Int} (hv : 0 ≤ v3 ∧ v3 + 7 ≤ (L : Int)) (hk : ∀ M : Mm, k M → Wa Γ 4 K kc ks 1716 [(0, aR 1000), (1, aR 0), (2, aR 102), (3, aI v3)] [] (NC, RF, M)) (M : Mm) (h1 : lc_30 xs v3 M k) : Wa Γ 4 K kc ks 1445 [(0, aR 1000), (1, aR 0), (2, aR 102), (3, aI v3)] [] (NC, RF, M) := by
  unfold lc_30 at h1
  refine a_aload_n hΓ 1 dL_law_1445 rfl rfl ?_
  obtain ⟨P1, q1, h1⟩ := h1
  refine a_callV (c := 0) (av := []) (st := []) hΓ (ct_wX11_clear _ _  M P1 q1) my_X11_clear ml_RL_141 ni_X11_clear kd_0 rfl lz_0 rfl (Nat.le_trans (by decide) hh) (by decide) hkc (Nat.le_of_ble_eq_true rfl) rfl dL_law_1446 (fun v Z' hq => ?_)
  obtain ⟨r1, M1, rfl, rfl, hq⟩ := hq
  have h1 := h1 r1 M1 hq
  dsimp only at h1
  refine a_aload_n hΓ 2 dL_law_1449 rfl rfl ?_
  obtain ⟨P2, q2, h1⟩ := h1
  refine a_callV (c := 102) (av := []) (st := [aI r1]) hΓ (ct_wX12_clear _ _  M1 P2 q2) my_X12_clear ml_RL_144 ni_X12_clear kd_102 rfl lz_102 rfl (Nat.le_trans (by decide) hh) (by decide) hkc (Nat.le_of_ble_eq_true rfl) rfl dL_law_1450 (fun v Z' hq => ?_)
  obtain ⟨r2, M2, rfl, rfl, hq⟩ := hq
  have h1 := h1 r2 M2 hq
  dsimp only at h1
  obtain ⟨g1, g2, g3, h1⟩ := h1
  refine a_icmp_eq (tgt := 1716) hΓ g1 g2 dL_law_1453 (by decide) (fun _ => ?_) (fun c => absurd g3 c)
  exact hk M2 h1
def lc_31 (xs : Nat → Int32) (v3 : Int) (M : Mm) (k : Mm → Prop) : Prop :=
  Bd (wX11_plan (Xi xs (v3 + 1)) (Xi xs (v3 + 2)) (Xi xs (v3 + 3)) (Xi xs (v3 + 4)) M) (fun r1 M1 =>
  Bd (wX12_plan (Xi xs (v3 + 1)) (Xi xs (v3 + 2)) (Xi xs (v3 + 3)) (Xi xs (v3 + 4)) M1) (fun r2 M2 =>
  inR r1 ∧ inR r2 ∧ r1 = r2 ∧ k M2))
set_option maxHeartbeats 4000000 in
theorem s_lc_31 {Γ : Cx} {h kC kS kc ks L : Nat} (hΓ : Ok Γ code RL 4 h kC kS) (hh : 1000 ≤ h) (hkc : kc + 0 ≤ kC ∧ ks + 0 ≤ kS) {xs : Nat → Int32} (hX : LX Γ L xs) (hL : L ≤ 3584) {K : State → Prop} {k : Mm → Prop} {v3 : Int} (hv : 0 ≤ v3 ∧ v3 + 7 ≤ (L : Int)) (hk : ∀ M : Mm, k M → Wa Γ 4 K kc ks 1716 [(0, aR 1000), (1, aR 0), (2, aR 102), (3, aI v3)] [] (NC, RF, M)) (M : Mm) (h1 : lc_31 xs v3 M k) : Wa Γ 4 K kc ks 1458 [(0, aR 1000), (1, aR 0), (2, aR 102), (3, aI v3)] [] (NC, RF, M) := by
  unfold lc_31 at h1
  refine a_aload_n hΓ 1 dL_law_1458 rfl rfl ?_
  refine a_aload_n hΓ 0 dL_law_1459 rfl rfl ?_
  refine a_iload_n hΓ 3 dL_law_1460 rfl rfl ?_
  refine a_iconst hΓ dL_law_1461 ?_
  refine a_iadd hΓ dL_law_1462 ?_
  refine a_sld hΓ hX dL_law_1463 ⟨by omega, by omega⟩ ?_
  refine a_aload_n hΓ 0 dL_law_1464 rfl rfl ?_
  refine a_iload_n hΓ 3 dL_law_1465 rfl rfl ?_
  refine a_iconst hΓ dL_law_1466 ?_
  refine a_iadd hΓ dL_law_1467 ?_
  refine a_sld hΓ hX dL_law_1468 ⟨by omega, by omega⟩ ?_
  refine a_aload_n hΓ 0 dL_law_1469 rfl rfl ?_
  refine a_iload_n hΓ 3 dL_law_1470 rfl rfl ?_
  refine a_iconst hΓ dL_law_1471 ?_
  refine a_iadd hΓ dL_law_1472 ?_
  refine a_sld hΓ hX dL_law_1473 ⟨by omega, by omega⟩ ?_
  refine a_aload_n hΓ 0 dL_law_1474 rfl rfl ?_
  refine a_iload_n hΓ 3 dL_law_1475 rfl rfl ?_
  refine a_iconst hΓ dL_law_1476 ?_
  refine a_iadd hΓ dL_law_1477 ?_
  refine a_sld hΓ hX dL_law_1478 ⟨by omega, by omega⟩ ?_
  obtain ⟨P1, q1, h1⟩ := h1
  refine a_callV (c := 0) (av := [aI (Xi xs (v3 + 1)), aI (Xi xs (v3 + 2)), aI (Xi xs (v3 + 3)), aI (Xi xs (v3 + 4))]) (st := []) hΓ (ct_wX11_plan _ _ (Xi xs (v3 + 1)) (Xi xs (v3 + 2)) (Xi xs (v3 + 3)) (Xi xs (v3 + 4)) M P1 q1) my_X11_plan ml_RL_145 ni_X11_plan kd_0 rfl lz_0 rfl (Nat.le_trans (by decide) hh) (by decide) hkc (Nat.le_of_ble_eq_true rfl) rfl dL_law_1479 (fun v Z' hq => ?_)
  obtain ⟨r1, M1, rfl, rfl, hq⟩ := hq
  have h1 := h1 r1 M1 hq
  dsimp only at h1
  refine a_aload_n hΓ 2 dL_law_1482 rfl rfl ?_
  refine a_aload_n hΓ 0 dL_law_1483 rfl rfl ?_
  refine a_iload_n hΓ 3 dL_law_1484 rfl rfl ?_
  refine a_iconst hΓ dL_law_1485 ?_
  refine a_iadd hΓ dL_law_1486 ?_
  refine a_sld hΓ hX dL_law_1487 ⟨by omega, by omega⟩ ?_
  refine a_aload_n hΓ 0 dL_law_1488 rfl rfl ?_
  refine a_iload_n hΓ 3 dL_law_1489 rfl rfl ?_
  refine a_iconst hΓ dL_law_1490 ?_
  refine a_iadd hΓ dL_law_1491 ?_
  refine a_sld hΓ hX dL_law_1492 ⟨by omega, by omega⟩ ?_
  refine a_aload_n hΓ 0 dL_law_1493 rfl rfl ?_
  refine a_iload_n hΓ 3 dL_law_1494 rfl rfl ?_
  refine a_iconst hΓ dL_law_1495 ?_
  refine a_iadd hΓ dL_law_1496 ?_
  refine a_sld hΓ hX dL_law_1497 ⟨by omega, by omega⟩ ?_
  refine a_aload_n hΓ 0 dL_law_1498 rfl rfl ?_
  refine a_iload_n hΓ 3 dL_law_1499 rfl rfl ?_
  refine a_iconst hΓ dL_law_1500 ?_
  refine a_iadd hΓ dL_law_1501 ?_
  refine a_sld hΓ hX dL_law_1502 ⟨by omega, by omega⟩ ?_
  obtain ⟨P2, q2, h1⟩ := h1
  refine a_callV (c := 102) (av := [aI (Xi xs (v3 + 1)), aI (Xi xs (v3 + 2)), aI (Xi xs (v3 + 3)), aI (Xi xs (v3 + 4))]) (st := [aI r1]) hΓ (ct_wX12_plan _ _ (Xi xs (v3 + 1)) (Xi xs (v3 + 2)) (Xi xs (v3 + 3)) (Xi xs (v3 + 4)) M1 P2 q2) my_X12_plan ml_RL_148 ni_X12_plan kd_102 rfl lz_102 rfl (Nat.le_trans (by decide) hh) (by decide) hkc (Nat.le_of_ble_eq_true rfl) rfl dL_law_1503 (fun v Z' hq => ?_)
  obtain ⟨r2, M2, rfl, rfl, hq⟩ := hq
  have h1 := h1 r2 M2 hq
  dsimp only at h1
  obtain ⟨g1, g2, g3, h1⟩ := h1
  refine a_icmp_eq (tgt := 1716) hΓ g1 g2 dL_law_1506 (by decide) (fun _ => ?_) (fun c => absurd g3 c)
  exact hk M2 h1
def lc_32 (xs : Nat → Int32) (v3 : Int) (M : Mm) (k : Mm → Prop) : Prop :=
  Bd (wX11_judge (Xi xs (v3 + 1)) (Xi xs (v3 + 2)) (Xi xs (v3 + 3)) (Xi xs (v3 + 4)) (Xi xs (v3 + 5)) M) (fun r1 M1 =>
  Bd (wX12_judge (Xi xs (v3 + 1)) (Xi xs (v3 + 2)) (Xi xs (v3 + 3)) (Xi xs (v3 + 4)) (Xi xs (v3 + 5)) M1) (fun r2 M2 =>
  inR64 r1 ∧ inR64 r2 ∧ r1 = r2 ∧ k M2))
set_option maxHeartbeats 4000000 in
theorem s_lc_32 {Γ : Cx} {h kC kS kc ks L : Nat} (hΓ : Ok Γ code RL 4 h kC kS) (hh : 1000 ≤ h) (hkc : kc + 0 ≤ kC ∧ ks + 0 ≤ kS) {xs : Nat → Int32} (hX : LX Γ L xs) (hL : L ≤ 3584) {K : State → Prop} {k : Mm → Prop} {v3 : Int} (hv : 0 ≤ v3 ∧ v3 + 7 ≤ (L : Int)) (hk : ∀ M : Mm, k M → Wa Γ 4 K kc ks 1716 [(0, aR 1000), (1, aR 0), (2, aR 102), (3, aI v3)] [] (NC, RF, M)) (M : Mm) (h1 : lc_32 xs v3 M k) : Wa Γ 4 K kc ks 1511 [(0, aR 1000), (1, aR 0), (2, aR 102), (3, aI v3)] [] (NC, RF, M) := by
  unfold lc_32 at h1
  refine a_aload_n hΓ 1 dL_law_1511 rfl rfl ?_
  refine a_aload_n hΓ 0 dL_law_1512 rfl rfl ?_
  refine a_iload_n hΓ 3 dL_law_1513 rfl rfl ?_
  refine a_iconst hΓ dL_law_1514 ?_
  refine a_iadd hΓ dL_law_1515 ?_
  refine a_sld hΓ hX dL_law_1516 ⟨by omega, by omega⟩ ?_
  refine a_aload_n hΓ 0 dL_law_1517 rfl rfl ?_
  refine a_iload_n hΓ 3 dL_law_1518 rfl rfl ?_
  refine a_iconst hΓ dL_law_1519 ?_
  refine a_iadd hΓ dL_law_1520 ?_
  refine a_sld hΓ hX dL_law_1521 ⟨by omega, by omega⟩ ?_
  refine a_aload_n hΓ 0 dL_law_1522 rfl rfl ?_
  refine a_iload_n hΓ 3 dL_law_1523 rfl rfl ?_
  refine a_iconst hΓ dL_law_1524 ?_
  refine a_iadd hΓ dL_law_1525 ?_
  refine a_sld hΓ hX dL_law_1526 ⟨by omega, by omega⟩ ?_
  refine a_aload_n hΓ 0 dL_law_1527 rfl rfl ?_
  refine a_iload_n hΓ 3 dL_law_1528 rfl rfl ?_
  refine a_iconst hΓ dL_law_1529 ?_
  refine a_iadd hΓ dL_law_1530 ?_
  refine a_sld hΓ hX dL_law_1531 ⟨by omega, by omega⟩ ?_
  refine a_aload_n hΓ 0 dL_law_1532 rfl rfl ?_
  refine a_iload_n hΓ 3 dL_law_1533 rfl rfl ?_
  refine a_iconst hΓ dL_law_1534 ?_
  refine a_iadd hΓ dL_law_1535 ?_
  refine a_sld hΓ hX dL_law_1536 ⟨by omega, by omega⟩ ?_
  obtain ⟨P1, q1, h1⟩ := h1
  refine a_callV (c := 0) (av := [aI (Xi xs (v3 + 1)), aI (Xi xs (v3 + 2)), aI (Xi xs (v3 + 3)), aI (Xi xs (v3 + 4)), aI (Xi xs (v3 + 5))]) (st := []) hΓ (ct_wX11_judge _ _ (Xi xs (v3 + 1)) (Xi xs (v3 + 2)) (Xi xs (v3 + 3)) (Xi xs (v3 + 4)) (Xi xs (v3 + 5)) M P1 q1) my_X11_judge ml_RL_149 ni_X11_judge kd_0 rfl lz_0 rfl (Nat.le_trans (by decide) hh) (by decide) hkc (Nat.le_of_ble_eq_true rfl) rfl dL_law_1537 (fun v Z' hq => ?_)
  obtain ⟨r1, M1, rfl, rfl, hq⟩ := hq
  have h1 := h1 r1 M1 hq
  dsimp only at h1
  refine a_aload_n hΓ 2 dL_law_1540 rfl rfl ?_
  refine a_aload_n hΓ 0 dL_law_1541 rfl rfl ?_
  refine a_iload_n hΓ 3 dL_law_1542 rfl rfl ?_
  refine a_iconst hΓ dL_law_1543 ?_
  refine a_iadd hΓ dL_law_1544 ?_
  refine a_sld hΓ hX dL_law_1545 ⟨by omega, by omega⟩ ?_
  refine a_aload_n hΓ 0 dL_law_1546 rfl rfl ?_
  refine a_iload_n hΓ 3 dL_law_1547 rfl rfl ?_
  refine a_iconst hΓ dL_law_1548 ?_
  refine a_iadd hΓ dL_law_1549 ?_
  refine a_sld hΓ hX dL_law_1550 ⟨by omega, by omega⟩ ?_
  refine a_aload_n hΓ 0 dL_law_1551 rfl rfl ?_
  refine a_iload_n hΓ 3 dL_law_1552 rfl rfl ?_
  refine a_iconst hΓ dL_law_1553 ?_
  refine a_iadd hΓ dL_law_1554 ?_
  refine a_sld hΓ hX dL_law_1555 ⟨by omega, by omega⟩ ?_
  refine a_aload_n hΓ 0 dL_law_1556 rfl rfl ?_
  refine a_iload_n hΓ 3 dL_law_1557 rfl rfl ?_
  refine a_iconst hΓ dL_law_1558 ?_
  refine a_iadd hΓ dL_law_1559 ?_
  refine a_sld hΓ hX dL_law_1560 ⟨by omega, by omega⟩ ?_
  refine a_aload_n hΓ 0 dL_law_1561 rfl rfl ?_
  refine a_iload_n hΓ 3 dL_law_1562 rfl rfl ?_
  refine a_iconst hΓ dL_law_1563 ?_
  refine a_iadd hΓ dL_law_1564 ?_
  refine a_sld hΓ hX dL_law_1565 ⟨by omega, by omega⟩ ?_
  obtain ⟨P2, q2, h1⟩ := h1
  refine a_callV (c := 102) (av := [aI (Xi xs (v3 + 1)), aI (Xi xs (v3 + 2)), aI (Xi xs (v3 + 3)), aI (Xi xs (v3 + 4)), aI (Xi xs (v3 + 5))]) (st := [aL r1]) hΓ (ct_wX12_judge _ _ (Xi xs (v3 + 1)) (Xi xs (v3 + 2)) (Xi xs (v3 + 3)) (Xi xs (v3 + 4)) (Xi xs (v3 + 5)) M1 P2 q2) my_X12_judge ml_RL_152 ni_X12_judge kd_102 rfl lz_102 rfl (Nat.le_trans (by decide) hh) (by decide) hkc (Nat.le_of_ble_eq_true rfl) rfl dL_law_1566 (fun v Z' hq => ?_)
  obtain ⟨r2, M2, rfl, rfl, hq⟩ := hq
  have h1 := h1 r2 M2 hq
  dsimp only at h1
  obtain ⟨g1, g2, g3, h1⟩ := h1
  refine a_lcmp hΓ g1 g2 dL_law_1569 ?_
  refine a_if_eq (tgt := 1716) hΓ (inR_cmp _ _) dL_law_1570 (by decide) (fun _ => ?_) (fun c => absurd (by rw [g3]; exact cmpI_self _) c)
  exact hk M2 h1
def lc_33 (xs : Nat → Int32) (v3 : Int) (M : Mm) (k : Mm → Prop) : Prop :=
  Bd (wX11_seal M) (fun r1 M1 =>
  Bd (wX12_seal M1) (fun r2 M2 =>
  inR r1 ∧ inR r2 ∧ r1 = r2 ∧ k M2))
set_option maxHeartbeats 4000000 in
theorem s_lc_33 {Γ : Cx} {h kC kS kc ks L : Nat} (hΓ : Ok Γ code RL 4 h kC kS) (hh : 1000 ≤ h) (hkc : kc + 0 ≤ kC ∧ ks + 0 ≤ kS) {xs : Nat → Int32} (hX : LX Γ L xs) (hL : L ≤ 3584) {K : State → Prop} {k : Mm → Prop} {v3 : Int} (hv : 0 ≤ v3 ∧ v3 + 7 ≤ (L : Int)) (hk : ∀ M : Mm, k M → Wa Γ 4 K kc ks 1716 [(0, aR 1000), (1, aR 0), (2, aR 102), (3, aI v3)] [] (NC, RF, M)) (M : Mm) (h1 : lc_33 xs v3 M k) : Wa Γ 4 K kc ks 1575 [(0, aR 1000), (1, aR 0), (2, aR 102), (3, aI v3)] [] (NC, RF, M) := by
  unfold lc_33 at h1
  refine a_aload_n hΓ 1 dL_law_1575 rfl rfl ?_
  obtain ⟨P1, q1, h1⟩ := h1
  refine a_callV (c := 0) (av := []) (st := []) hΓ (ct_wX11_seal _ _  M P1 q1) my_X11_seal ml_RL_153 ni_X11_seal kd_0 rfl lz_0 rfl (Nat.le_trans (by decide) hh) (by decide) hkc (Nat.le_of_ble_eq_true rfl) rfl dL_law_1576 (fun v Z' hq => ?_)
  obtain ⟨r1, M1, rfl, rfl, hq⟩ := hq
  have h1 := h1 r1 M1 hq
  dsimp only at h1
  refine a_aload_n hΓ 2 dL_law_1579 rfl rfl ?_
  obtain ⟨P2, q2, h1⟩ := h1
  refine a_callV (c := 102) (av := []) (st := [aI r1]) hΓ (ct_wX12_seal _ _  M1 P2 q2) my_X12_seal ml_RL_156 ni_X12_seal kd_102 rfl lz_102 rfl (Nat.le_trans (by decide) hh) (by decide) hkc (Nat.le_of_ble_eq_true rfl) rfl dL_law_1580 (fun v Z' hq => ?_)
  obtain ⟨r2, M2, rfl, rfl, hq⟩ := hq
  have h1 := h1 r2 M2 hq
  dsimp only at h1
  obtain ⟨g1, g2, g3, h1⟩ := h1
  refine a_icmp_eq (tgt := 1716) hΓ g1 g2 dL_law_1583 (by decide) (fun _ => ?_) (fun c => absurd g3 c)
  exact hk M2 h1
def lc_34 (xs : Nat → Int32) (v3 : Int) (M : Mm) (k : Mm → Prop) : Prop :=
  Bd (wX11_alter (Xi xs (v3 + 1)) (Xi xs (v3 + 2)) M) (fun r1 M1 =>
  Bd (wX12_alter (Xi xs (v3 + 1)) (Xi xs (v3 + 2)) M1) (fun r2 M2 =>
  inR r1 ∧ inR r2 ∧ r1 = r2 ∧ k M2))
set_option maxHeartbeats 4000000 in
theorem s_lc_34 {Γ : Cx} {h kC kS kc ks L : Nat} (hΓ : Ok Γ code RL 4 h kC kS) (hh : 1000 ≤ h) (hkc : kc + 0 ≤ kC ∧ ks + 0 ≤ kS) {xs : Nat → Int32} (hX : LX Γ L xs) (hL : L ≤ 3584) {K : State → Prop} {k : Mm → Prop} {v3 : Int} (hv : 0 ≤ v3 ∧ v3 + 7 ≤ (L : Int)) (hk : ∀ M : Mm, k M → Wa Γ 4 K kc ks 1716 [(0, aR 1000), (1, aR 0), (2, aR 102), (3, aI v3)] [] (NC, RF, M)) (M : Mm) (h1 : lc_34 xs v3 M k) : Wa Γ 4 K kc ks 1588 [(0, aR 1000), (1, aR 0), (2, aR 102), (3, aI v3)] [] (NC, RF, M) := by
  unfold lc_34 at h1
  refine a_aload_n hΓ 1 dL_law_1588 rfl rfl ?_
  refine a_aload_n hΓ 0 dL_law_1589 rfl rfl ?_
  refine a_iload_n hΓ 3 dL_law_1590 rfl rfl ?_
  refine a_iconst hΓ dL_law_1591 ?_
  refine a_iadd hΓ dL_law_1592 ?_
  refine a_sld hΓ hX dL_law_1593 ⟨by omega, by omega⟩ ?_
  refine a_aload_n hΓ 0 dL_law_1594 rfl rfl ?_
  refine a_iload_n hΓ 3 dL_law_1595 rfl rfl ?_
  refine a_iconst hΓ dL_law_1596 ?_
  refine a_iadd hΓ dL_law_1597 ?_
  refine a_sld hΓ hX dL_law_1598 ⟨by omega, by omega⟩ ?_
  obtain ⟨P1, q1, h1⟩ := h1
  refine a_callV (c := 0) (av := [aI (Xi xs (v3 + 1)), aI (Xi xs (v3 + 2))]) (st := []) hΓ (ct_wX11_alter _ _ (Xi xs (v3 + 1)) (Xi xs (v3 + 2)) M P1 q1) my_X11_alter ml_RL_157 ni_X11_alter kd_0 rfl lz_0 rfl (Nat.le_trans (by decide) hh) (by decide) hkc (Nat.le_of_ble_eq_true rfl) rfl dL_law_1599 (fun v Z' hq => ?_)
  obtain ⟨r1, M1, rfl, rfl, hq⟩ := hq
  have h1 := h1 r1 M1 hq
  dsimp only at h1
  refine a_aload_n hΓ 2 dL_law_1602 rfl rfl ?_
  refine a_aload_n hΓ 0 dL_law_1603 rfl rfl ?_
  refine a_iload_n hΓ 3 dL_law_1604 rfl rfl ?_
  refine a_iconst hΓ dL_law_1605 ?_
  refine a_iadd hΓ dL_law_1606 ?_
  refine a_sld hΓ hX dL_law_1607 ⟨by omega, by omega⟩ ?_
  refine a_aload_n hΓ 0 dL_law_1608 rfl rfl ?_
  refine a_iload_n hΓ 3 dL_law_1609 rfl rfl ?_
  refine a_iconst hΓ dL_law_1610 ?_
  refine a_iadd hΓ dL_law_1611 ?_
  refine a_sld hΓ hX dL_law_1612 ⟨by omega, by omega⟩ ?_
  obtain ⟨P2, q2, h1⟩ := h1
  refine a_callV (c := 102) (av := [aI (Xi xs (v3 + 1)), aI (Xi xs (v3 + 2))]) (st := [aI r1]) hΓ (ct_wX12_alter _ _ (Xi xs (v3 + 1)) (Xi xs (v3 + 2)) M1 P2 q2) my_X12_alter ml_RL_160 ni_X12_alter kd_102 rfl lz_102 rfl (Nat.le_trans (by decide) hh) (by decide) hkc (Nat.le_of_ble_eq_true rfl) rfl dL_law_1613 (fun v Z' hq => ?_)
  obtain ⟨r2, M2, rfl, rfl, hq⟩ := hq
  have h1 := h1 r2 M2 hq
  dsimp only at h1
  obtain ⟨g1, g2, g3, h1⟩ := h1
  refine a_icmp_eq (tgt := 1716) hΓ g1 g2 dL_law_1616 (by decide) (fun _ => ?_) (fun c => absurd g3 c)
  exact hk M2 h1
def lc_35 (xs : Nat → Int32) (v3 : Int) (M : Mm) (k : Mm → Prop) : Prop :=
  Bd (wX11_found M) (fun r1 M1 =>
  Bd (wX12_found M1) (fun r2 M2 =>
  inR r1 ∧ inR r2 ∧ r1 = r2 ∧ k M2))
set_option maxHeartbeats 4000000 in
theorem s_lc_35 {Γ : Cx} {h kC kS kc ks L : Nat} (hΓ : Ok Γ code RL 4 h kC kS) (hh : 1000 ≤ h) (hkc : kc + 0 ≤ kC ∧ ks + 0 ≤ kS) {xs : Nat → Int32} (hX : LX Γ L xs) (hL : L ≤ 3584) {K : State → Prop} {k : Mm → Prop} {v3 : Int} (hv : 0 ≤ v3 ∧ v3 + 7 ≤ (L : Int)) (hk : ∀ M : Mm, k M → Wa Γ 4 K kc ks 1716 [(0, aR 1000), (1, aR 0), (2, aR 102), (3, aI v3)] [] (NC, RF, M)) (M : Mm) (h1 : lc_35 xs v3 M k) : Wa Γ 4 K kc ks 1621 [(0, aR 1000), (1, aR 0), (2, aR 102), (3, aI v3)] [] (NC, RF, M) := by
  unfold lc_35 at h1
  refine a_aload_n hΓ 1 dL_law_1621 rfl rfl ?_
  obtain ⟨P1, q1, h1⟩ := h1
  refine a_callV (c := 0) (av := []) (st := []) hΓ (ct_wX11_found _ _  M P1 q1) my_X11_found ml_RL_161 ni_X11_found kd_0 rfl lz_0 rfl (Nat.le_trans (by decide) hh) (by decide) hkc (Nat.le_of_ble_eq_true rfl) rfl dL_law_1622 (fun v Z' hq => ?_)
  obtain ⟨r1, M1, rfl, rfl, hq⟩ := hq
  have h1 := h1 r1 M1 hq
  dsimp only at h1
  refine a_aload_n hΓ 2 dL_law_1625 rfl rfl ?_
  obtain ⟨P2, q2, h1⟩ := h1
  refine a_callV (c := 102) (av := []) (st := [aI r1]) hΓ (ct_wX12_found _ _  M1 P2 q2) my_X12_found ml_RL_164 ni_X12_found kd_102 rfl lz_102 rfl (Nat.le_trans (by decide) hh) (by decide) hkc (Nat.le_of_ble_eq_true rfl) rfl dL_law_1626 (fun v Z' hq => ?_)
  obtain ⟨r2, M2, rfl, rfl, hq⟩ := hq
  have h1 := h1 r2 M2 hq
  dsimp only at h1
  obtain ⟨g1, g2, g3, h1⟩ := h1
  refine a_icmp_eq (tgt := 1716) hΓ g1 g2 dL_law_1629 (by decide) (fun _ => ?_) (fun c => absurd g3 c)
  exact hk M2 h1
def lc_36 (xs : Nat → Int32) (v3 : Int) (M : Mm) (k : Mm → Prop) : Prop :=
  Bd (wX11_image (Xi xs (v3 + 1)) M) (fun r1 M1 =>
  Bd (wX12_image (Xi xs (v3 + 1)) M1) (fun r2 M2 =>
  inR r1 ∧ inR r2 ∧ r1 = r2 ∧ k M2))
set_option maxHeartbeats 4000000 in
theorem s_lc_36 {Γ : Cx} {h kC kS kc ks L : Nat} (hΓ : Ok Γ code RL 4 h kC kS) (hh : 1000 ≤ h) (hkc : kc + 0 ≤ kC ∧ ks + 0 ≤ kS) {xs : Nat → Int32} (hX : LX Γ L xs) (hL : L ≤ 3584) {K : State → Prop} {k : Mm → Prop} {v3 : Int} (hv : 0 ≤ v3 ∧ v3 + 7 ≤ (L : Int)) (hk : ∀ M : Mm, k M → Wa Γ 4 K kc ks 1716 [(0, aR 1000), (1, aR 0), (2, aR 102), (3, aI v3)] [] (NC, RF, M)) (M : Mm) (h1 : lc_36 xs v3 M k) : Wa Γ 4 K kc ks 1634 [(0, aR 1000), (1, aR 0), (2, aR 102), (3, aI v3)] [] (NC, RF, M) := by
  unfold lc_36 at h1
  refine a_aload_n hΓ 1 dL_law_1634 rfl rfl ?_
  refine a_aload_n hΓ 0 dL_law_1635 rfl rfl ?_
  refine a_iload_n hΓ 3 dL_law_1636 rfl rfl ?_
  refine a_iconst hΓ dL_law_1637 ?_
  refine a_iadd hΓ dL_law_1638 ?_
  refine a_sld hΓ hX dL_law_1639 ⟨by omega, by omega⟩ ?_
  obtain ⟨P1, q1, h1⟩ := h1
  refine a_callV (c := 0) (av := [aI (Xi xs (v3 + 1))]) (st := []) hΓ (ct_wX11_image _ _ (Xi xs (v3 + 1)) M P1 q1) my_X11_image ml_RL_165 ni_X11_image kd_0 rfl lz_0 rfl (Nat.le_trans (by decide) hh) (by decide) hkc (Nat.le_of_ble_eq_true rfl) rfl dL_law_1640 (fun v Z' hq => ?_)
  obtain ⟨r1, M1, rfl, rfl, hq⟩ := hq
  have h1 := h1 r1 M1 hq
  dsimp only at h1
  refine a_aload_n hΓ 2 dL_law_1643 rfl rfl ?_
  refine a_aload_n hΓ 0 dL_law_1644 rfl rfl ?_
  refine a_iload_n hΓ 3 dL_law_1645 rfl rfl ?_
  refine a_iconst hΓ dL_law_1646 ?_
  refine a_iadd hΓ dL_law_1647 ?_
  refine a_sld hΓ hX dL_law_1648 ⟨by omega, by omega⟩ ?_
  obtain ⟨P2, q2, h1⟩ := h1
  refine a_callV (c := 102) (av := [aI (Xi xs (v3 + 1))]) (st := [aI r1]) hΓ (ct_wX12_image _ _ (Xi xs (v3 + 1)) M1 P2 q2) my_X12_image ml_RL_168 ni_X12_image kd_102 rfl lz_102 rfl (Nat.le_trans (by decide) hh) (by decide) hkc (Nat.le_of_ble_eq_true rfl) rfl dL_law_1649 (fun v Z' hq => ?_)
  obtain ⟨r2, M2, rfl, rfl, hq⟩ := hq
  have h1 := h1 r2 M2 hq
  dsimp only at h1
  obtain ⟨g1, g2, g3, h1⟩ := h1
  refine a_icmp_eq (tgt := 1716) hΓ g1 g2 dL_law_1652 (by decide) (fun _ => ?_) (fun c => absurd g3 c)
  exact hk M2 h1
def lc_37 (xs : Nat → Int32) (v3 : Int) (M : Mm) (k : Mm → Prop) : Prop :=
  Bd (wX11_back (Xi xs (v3 + 1)) M) (fun r1 M1 =>
  Bd (wX12_back (Xi xs (v3 + 1)) M1) (fun r2 M2 =>
  inR r1 ∧ inR r2 ∧ r1 = r2 ∧ k M2))
set_option maxHeartbeats 4000000 in
theorem s_lc_37 {Γ : Cx} {h kC kS kc ks L : Nat} (hΓ : Ok Γ code RL 4 h kC kS) (hh : 1000 ≤ h) (hkc : kc + 0 ≤ kC ∧ ks + 0 ≤ kS) {xs : Nat → Int32} (hX : LX Γ L xs) (hL : L ≤ 3584) {K : State → Prop} {k : Mm → Prop} {v3 : Int} (hv : 0 ≤ v3 ∧ v3 + 7 ≤ (L : Int)) (hk : ∀ M : Mm, k M → Wa Γ 4 K kc ks 1716 [(0, aR 1000), (1, aR 0), (2, aR 102), (3, aI v3)] [] (NC, RF, M)) (M : Mm) (h1 : lc_37 xs v3 M k) : Wa Γ 4 K kc ks 1657 [(0, aR 1000), (1, aR 0), (2, aR 102), (3, aI v3)] [] (NC, RF, M) := by
  unfold lc_37 at h1
  refine a_aload_n hΓ 1 dL_law_1657 rfl rfl ?_
  refine a_aload_n hΓ 0 dL_law_1658 rfl rfl ?_
  refine a_iload_n hΓ 3 dL_law_1659 rfl rfl ?_
  refine a_iconst hΓ dL_law_1660 ?_
  refine a_iadd hΓ dL_law_1661 ?_
  refine a_sld hΓ hX dL_law_1662 ⟨by omega, by omega⟩ ?_
  obtain ⟨P1, q1, h1⟩ := h1
  refine a_callV (c := 0) (av := [aI (Xi xs (v3 + 1))]) (st := []) hΓ (ct_wX11_back _ _ (Xi xs (v3 + 1)) M P1 q1) my_X11_back ml_RL_169 ni_X11_back kd_0 rfl lz_0 rfl (Nat.le_trans (by decide) hh) (by decide) hkc (Nat.le_of_ble_eq_true rfl) rfl dL_law_1663 (fun v Z' hq => ?_)
  obtain ⟨r1, M1, rfl, rfl, hq⟩ := hq
  have h1 := h1 r1 M1 hq
  dsimp only at h1
  refine a_aload_n hΓ 2 dL_law_1666 rfl rfl ?_
  refine a_aload_n hΓ 0 dL_law_1667 rfl rfl ?_
  refine a_iload_n hΓ 3 dL_law_1668 rfl rfl ?_
  refine a_iconst hΓ dL_law_1669 ?_
  refine a_iadd hΓ dL_law_1670 ?_
  refine a_sld hΓ hX dL_law_1671 ⟨by omega, by omega⟩ ?_
  obtain ⟨P2, q2, h1⟩ := h1
  refine a_callV (c := 102) (av := [aI (Xi xs (v3 + 1))]) (st := [aI r1]) hΓ (ct_wX12_back _ _ (Xi xs (v3 + 1)) M1 P2 q2) my_X12_back ml_RL_172 ni_X12_back kd_102 rfl lz_102 rfl (Nat.le_trans (by decide) hh) (by decide) hkc (Nat.le_of_ble_eq_true rfl) rfl dL_law_1672 (fun v Z' hq => ?_)
  obtain ⟨r2, M2, rfl, rfl, hq⟩ := hq
  have h1 := h1 r2 M2 hq
  dsimp only at h1
  obtain ⟨g1, g2, g3, h1⟩ := h1
  refine a_icmp_eq (tgt := 1716) hΓ g1 g2 dL_law_1675 (by decide) (fun _ => ?_) (fun c => absurd g3 c)
  exact hk M2 h1
def lc_38 (xs : Nat → Int32) (v3 : Int) (M : Mm) (k : Mm → Prop) : Prop :=
  Bd (wX11_count (Xi xs (v3 + 1)) M) (fun r1 M1 =>
  Bd (wX12_count (Xi xs (v3 + 1)) M1) (fun r2 M2 =>
  inR r1 ∧ inR r2 ∧ r1 = r2 ∧ k M2))
set_option maxHeartbeats 4000000 in
theorem s_lc_38 {Γ : Cx} {h kC kS kc ks L : Nat} (hΓ : Ok Γ code RL 4 h kC kS) (hh : 1000 ≤ h) (hkc : kc + 0 ≤ kC ∧ ks + 0 ≤ kS) {xs : Nat → Int32} (hX : LX Γ L xs) (hL : L ≤ 3584) {K : State → Prop} {k : Mm → Prop} {v3 : Int} (hv : 0 ≤ v3 ∧ v3 + 7 ≤ (L : Int)) (hk : ∀ M : Mm, k M → Wa Γ 4 K kc ks 1716 [(0, aR 1000), (1, aR 0), (2, aR 102), (3, aI v3)] [] (NC, RF, M)) (M : Mm) (h1 : lc_38 xs v3 M k) : Wa Γ 4 K kc ks 1680 [(0, aR 1000), (1, aR 0), (2, aR 102), (3, aI v3)] [] (NC, RF, M) := by
  unfold lc_38 at h1
  refine a_aload_n hΓ 1 dL_law_1680 rfl rfl ?_
  refine a_aload_n hΓ 0 dL_law_1681 rfl rfl ?_
  refine a_iload_n hΓ 3 dL_law_1682 rfl rfl ?_
  refine a_iconst hΓ dL_law_1683 ?_
  refine a_iadd hΓ dL_law_1684 ?_
  refine a_sld hΓ hX dL_law_1685 ⟨by omega, by omega⟩ ?_
  obtain ⟨P1, q1, h1⟩ := h1
  refine a_callV (c := 0) (av := [aI (Xi xs (v3 + 1))]) (st := []) hΓ (ct_wX11_count _ _ (Xi xs (v3 + 1)) M P1 q1) my_X11_count ml_RL_173 ni_X11_count kd_0 rfl lz_0 rfl (Nat.le_trans (by decide) hh) (by decide) hkc (Nat.le_of_ble_eq_true rfl) rfl dL_law_1686 (fun v Z' hq => ?_)
  obtain ⟨r1, M1, rfl, rfl, hq⟩ := hq
  have h1 := h1 r1 M1 hq
  dsimp only at h1
  refine a_aload_n hΓ 2 dL_law_1689 rfl rfl ?_
  refine a_aload_n hΓ 0 dL_law_1690 rfl rfl ?_
  refine a_iload_n hΓ 3 dL_law_1691 rfl rfl ?_
  refine a_iconst hΓ dL_law_1692 ?_
  refine a_iadd hΓ dL_law_1693 ?_
  refine a_sld hΓ hX dL_law_1694 ⟨by omega, by omega⟩ ?_
  obtain ⟨P2, q2, h1⟩ := h1
  refine a_callV (c := 102) (av := [aI (Xi xs (v3 + 1))]) (st := [aI r1]) hΓ (ct_wX12_count _ _ (Xi xs (v3 + 1)) M1 P2 q2) my_X12_count ml_RL_176 ni_X12_count kd_102 rfl lz_102 rfl (Nat.le_trans (by decide) hh) (by decide) hkc (Nat.le_of_ble_eq_true rfl) rfl dL_law_1695 (fun v Z' hq => ?_)
  obtain ⟨r2, M2, rfl, rfl, hq⟩ := hq
  have h1 := h1 r2 M2 hq
  dsimp only at h1
  obtain ⟨g1, g2, g3, h1⟩ := h1
  refine a_icmp_eq (tgt := 1716) hΓ g1 g2 dL_law_1698 (by decide) (fun _ => ?_) (fun c => absurd g3 c)
  exact hk M2 h1
def lc_39 (xs : Nat → Int32) (v3 : Int) (M : Mm) (k : Mm → Prop) : Prop :=
  Bd (wX11_status M) (fun r1 M1 =>
  Bd (wX12_status M1) (fun r2 M2 =>
  inR r1 ∧ inR r2 ∧ r1 = r2 ∧ k M2))
set_option maxHeartbeats 4000000 in
theorem s_lc_39 {Γ : Cx} {h kC kS kc ks L : Nat} (hΓ : Ok Γ code RL 4 h kC kS) (hh : 1000 ≤ h) (hkc : kc + 0 ≤ kC ∧ ks + 0 ≤ kS) {xs : Nat → Int32} (hX : LX Γ L xs) (hL : L ≤ 3584) {K : State → Prop} {k : Mm → Prop} {v3 : Int} (hv : 0 ≤ v3 ∧ v3 + 7 ≤ (L : Int)) (hk : ∀ M : Mm, k M → Wa Γ 4 K kc ks 1716 [(0, aR 1000), (1, aR 0), (2, aR 102), (3, aI v3)] [] (NC, RF, M)) (M : Mm) (h1 : lc_39 xs v3 M k) : Wa Γ 4 K kc ks 1703 [(0, aR 1000), (1, aR 0), (2, aR 102), (3, aI v3)] [] (NC, RF, M) := by
  unfold lc_39 at h1
  refine a_aload_n hΓ 1 dL_law_1703 rfl rfl ?_
  obtain ⟨P1, q1, h1⟩ := h1
  refine a_callV (c := 0) (av := []) (st := []) hΓ (ct_wX11_status _ _  M P1 q1) my_X11_status ml_RL_177 ni_X11_status kd_0 rfl lz_0 rfl (Nat.le_trans (by decide) hh) (by decide) hkc (Nat.le_of_ble_eq_true rfl) rfl dL_law_1704 (fun v Z' hq => ?_)
  obtain ⟨r1, M1, rfl, rfl, hq⟩ := hq
  have h1 := h1 r1 M1 hq
  dsimp only at h1
  refine a_aload_n hΓ 2 dL_law_1707 rfl rfl ?_
  obtain ⟨P2, q2, h1⟩ := h1
  refine a_callV (c := 102) (av := []) (st := [aI r1]) hΓ (ct_wX12_status _ _  M1 P2 q2) my_X12_status ml_RL_180 ni_X12_status kd_102 rfl lz_102 rfl (Nat.le_trans (by decide) hh) (by decide) hkc (Nat.le_of_ble_eq_true rfl) rfl dL_law_1708 (fun v Z' hq => ?_)
  obtain ⟨r2, M2, rfl, rfl, hq⟩ := hq
  have h1 := h1 r2 M2 hq
  dsimp only at h1
  obtain ⟨g1, g2, g3, h1⟩ := h1
  refine a_icmp_eq (tgt := 1716) hΓ g1 g2 dL_law_1711 (by decide) (fun _ => ?_) (fun c => absurd g3 c)
  exact hk M2 h1
def wlaw (L : Nat) (xs : Nat → Int32) : Nat → Int → Mm → Prop
  | 0, _, _ => False
  | f + 1, v3, M => if v3 ≤ (L : Int) - 7 then
    if landI (Xi xs v3) 63 = 0 then lc_0 xs v3 M (wlaw L xs f (v3 + 7)) else
    if landI (Xi xs v3) 63 = 1 then lc_1 xs v3 M (wlaw L xs f (v3 + 7)) else
    if landI (Xi xs v3) 63 = 2 then lc_2 xs v3 M (wlaw L xs f (v3 + 7)) else
    if landI (Xi xs v3) 63 = 3 then lc_3 xs v3 M (wlaw L xs f (v3 + 7)) else
    if landI (Xi xs v3) 63 = 4 then lc_4 xs v3 M (wlaw L xs f (v3 + 7)) else
    if landI (Xi xs v3) 63 = 5 then lc_5 xs v3 M (wlaw L xs f (v3 + 7)) else
    if landI (Xi xs v3) 63 = 6 then lc_6 xs v3 M (wlaw L xs f (v3 + 7)) else
    if landI (Xi xs v3) 63 = 7 then lc_7 xs v3 M (wlaw L xs f (v3 + 7)) else
    if landI (Xi xs v3) 63 = 8 then lc_8 xs v3 M (wlaw L xs f (v3 + 7)) else
    if landI (Xi xs v3) 63 = 9 then lc_9 xs v3 M (wlaw L xs f (v3 + 7)) else
    if landI (Xi xs v3) 63 = 10 then lc_10 xs v3 M (wlaw L xs f (v3 + 7)) else
    if landI (Xi xs v3) 63 = 11 then lc_11 xs v3 M (wlaw L xs f (v3 + 7)) else
    if landI (Xi xs v3) 63 = 12 then lc_12 xs v3 M (wlaw L xs f (v3 + 7)) else
    if landI (Xi xs v3) 63 = 13 then lc_13 xs v3 M (wlaw L xs f (v3 + 7)) else
    if landI (Xi xs v3) 63 = 14 then lc_14 xs v3 M (wlaw L xs f (v3 + 7)) else
    if landI (Xi xs v3) 63 = 15 then lc_15 xs v3 M (wlaw L xs f (v3 + 7)) else
    if landI (Xi xs v3) 63 = 16 then lc_16 xs v3 M (wlaw L xs f (v3 + 7)) else
    if landI (Xi xs v3) 63 = 17 then lc_17 xs v3 M (wlaw L xs f (v3 + 7)) else
    if landI (Xi xs v3) 63 = 18 then lc_18 xs v3 M (wlaw L xs f (v3 + 7)) else
    if landI (Xi xs v3) 63 = 19 then lc_19 xs v3 M (wlaw L xs f (v3 + 7)) else
    if landI (Xi xs v3) 63 = 20 then lc_20 xs v3 M (wlaw L xs f (v3 + 7)) else
    if landI (Xi xs v3) 63 = 21 then lc_21 xs v3 M (wlaw L xs f (v3 + 7)) else
    if landI (Xi xs v3) 63 = 22 then lc_22 xs v3 M (wlaw L xs f (v3 + 7)) else
    if landI (Xi xs v3) 63 = 23 then lc_23 xs v3 M (wlaw L xs f (v3 + 7)) else
    if landI (Xi xs v3) 63 = 24 then lc_24 xs v3 M (wlaw L xs f (v3 + 7)) else
    if landI (Xi xs v3) 63 = 25 then lc_25 xs v3 M (wlaw L xs f (v3 + 7)) else
    if landI (Xi xs v3) 63 = 26 then lc_26 xs v3 M (wlaw L xs f (v3 + 7)) else
    if landI (Xi xs v3) 63 = 27 then lc_27 xs v3 M (wlaw L xs f (v3 + 7)) else
    if landI (Xi xs v3) 63 = 28 then lc_28 xs v3 M (wlaw L xs f (v3 + 7)) else
    if landI (Xi xs v3) 63 = 29 then lc_29 xs v3 M (wlaw L xs f (v3 + 7)) else
    if landI (Xi xs v3) 63 = 30 then lc_30 xs v3 M (wlaw L xs f (v3 + 7)) else
    if landI (Xi xs v3) 63 = 31 then lc_31 xs v3 M (wlaw L xs f (v3 + 7)) else
    if landI (Xi xs v3) 63 = 32 then lc_32 xs v3 M (wlaw L xs f (v3 + 7)) else
    if landI (Xi xs v3) 63 = 33 then lc_33 xs v3 M (wlaw L xs f (v3 + 7)) else
    if landI (Xi xs v3) 63 = 34 then lc_34 xs v3 M (wlaw L xs f (v3 + 7)) else
    if landI (Xi xs v3) 63 = 35 then lc_35 xs v3 M (wlaw L xs f (v3 + 7)) else
    if landI (Xi xs v3) 63 = 36 then lc_36 xs v3 M (wlaw L xs f (v3 + 7)) else
    if landI (Xi xs v3) 63 = 37 then lc_37 xs v3 M (wlaw L xs f (v3 + 7)) else
    if landI (Xi xs v3) 63 = 38 then lc_38 xs v3 M (wlaw L xs f (v3 + 7)) else
    if landI (Xi xs v3) 63 = 39 then lc_39 xs v3 M (wlaw L xs f (v3 + 7)) else
    wlaw L xs f (v3 + 7) M
    else True
set_option maxHeartbeats 8000000 in
theorem s_wlaw {Γ : Cx} {h kC kS kc ks L : Nat} (hΓ : Ok Γ code RL 4 h kC kS) (hh : 1000 ≤ h) (hkc : kc + 0 ≤ kC ∧ ks + 0 ≤ kS) {xs : Nat → Int32} (hX : LX Γ L xs) (hL : L ≤ 3584) {K : State → Prop} (hend : ∀ (ls : List (Nat × AV)) (M : Mm), Wa Γ 4 K kc ks 1723 ls [aI 1] (NC, RF, M)) : ∀ (f : Nat) (v3 : Int) (M : Mm), (0 ≤ v3 ∧ v3 ≤ (L : Int)) → wlaw L xs f v3 M → Wa Γ 4 K kc ks 18 [(0, aR 1000), (1, aR 0), (2, aR 102), (3, aI v3)] [] (NC, RF, M) := by
  intro f
  induction f with
  | zero => intro v3 M _ h; exact h.elim
  | succ f ih =>
    intro v3 M hv h1
    unfold wlaw at h1
    have hr3 : inR v3 := by unfold inR; omega
    have hrL : inR ((L : Int) - 7) := by unfold inR; omega
    refine a_iload_n hΓ 3 dL_law_18 rfl rfl ?_
    refine a_aload_n hΓ 0 dL_law_19 rfl rfl ?_
    refine a_slen hΓ hX dL_law_20 ?_
    refine a_bipush hΓ dL_law_21 (by decide) ?_
    refine a_isub hΓ dL_law_23 ?_
    refine a_icmp_gt (tgt := 1722) hΓ hr3 hrL dL_law_24 (by decide) (fun c => ?_) (fun c => ?_)
    · rw [if_pos c] at h1
      have hn : ∀ M : Mm, wlaw L xs f (v3 + 7) M → Wa Γ 4 K kc ks 1716 [(0, aR 1000), (1, aR 0), (2, aR 102), (3, aI v3)] [] (NC, RF, M) := by
        intro M hw
        refine a_iinc (ls' := [(3, aI (v3 + 7)), (0, aR 1000), (1, aR 0), (2, aR 102)]) hΓ 3 dL_law_1716 rfl (by decide) rfl ?_
        refine a_goto (tgt := 18) hΓ dL_law_1719 (by decide) ?_
        refine a_sub (ls' := [(0, aR 1000), (1, aR 0), (2, aR 102), (3, aI (v3 + 7))]) [1, 2, 3, 0] rfl ?_
        exact ih (v3 + 7) M ⟨by omega, by omega⟩ hw
      refine a_aload_n hΓ 0 dL_law_27 rfl rfl ?_
      refine a_iload_n hΓ 3 dL_law_28 rfl rfl ?_
      refine a_sld hΓ hX dL_law_29 ⟨by omega, by omega⟩ ?_
      refine a_bipush hΓ dL_law_30 (by decide) ?_
      refine a_iand hΓ dL_law_32 ?_
      by_cases c0 : landI (Xi xs v3) 63 = 0
      · rw [if_pos c0] at h1
        refine a_tswIn (tgt := 208) hΓ (inR_land _ _) dL_law_33 (by rw [c0]; decide) (by rw [c0]; decide) (by rw [c0]; rfl) (by decide) ?_
        exact s_lc_0 hΓ hh hkc hX hL ⟨by omega, by omega⟩ hn M h1
      rw [if_neg c0] at h1
      by_cases c1 : landI (Xi xs v3) 63 = 1
      · rw [if_pos c1] at h1
        refine a_tswIn (tgt := 261) hΓ (inR_land _ _) dL_law_33 (by rw [c1]; decide) (by rw [c1]; decide) (by rw [c1]; rfl) (by decide) ?_
        exact s_lc_1 hΓ hh hkc hX hL ⟨by omega, by omega⟩ hn M h1
      rw [if_neg c1] at h1
      by_cases c2 : landI (Xi xs v3) 63 = 2
      · rw [if_pos c2] at h1
        refine a_tswIn (tgt := 284) hΓ (inR_land _ _) dL_law_33 (by rw [c2]; decide) (by rw [c2]; decide) (by rw [c2]; rfl) (by decide) ?_
        exact s_lc_2 hΓ hh hkc hX hL ⟨by omega, by omega⟩ hn M h1
      rw [if_neg c2] at h1
      by_cases c3 : landI (Xi xs v3) 63 = 3
      · rw [if_pos c3] at h1
        refine a_tswIn (tgt := 359) hΓ (inR_land _ _) dL_law_33 (by rw [c3]; decide) (by rw [c3]; decide) (by rw [c3]; rfl) (by decide) ?_
        exact s_lc_3 hΓ hh hkc hX hL ⟨by omega, by omega⟩ hn M h1
      rw [if_neg c3] at h1
      by_cases c4 : landI (Xi xs v3) 63 = 4
      · rw [if_pos c4] at h1
        refine a_tswIn (tgt := 402) hΓ (inR_land _ _) dL_law_33 (by rw [c4]; decide) (by rw [c4]; decide) (by rw [c4]; rfl) (by decide) ?_
        exact s_lc_4 hΓ hh hkc hX hL ⟨by omega, by omega⟩ hn M h1
      rw [if_neg c4] at h1
      by_cases c5 : landI (Xi xs v3) 63 = 5
      · rw [if_pos c5] at h1
        refine a_tswIn (tgt := 435) hΓ (inR_land _ _) dL_law_33 (by rw [c5]; decide) (by rw [c5]; decide) (by rw [c5]; rfl) (by decide) ?_
        exact s_lc_5 hΓ hh hkc hX hL ⟨by omega, by omega⟩ hn M h1
      rw [if_neg c5] at h1
      by_cases c6 : landI (Xi xs v3) 63 = 6
      · rw [if_pos c6] at h1
        refine a_tswIn (tgt := 510) hΓ (inR_land _ _) dL_law_33 (by rw [c6]; decide) (by rw [c6]; decide) (by rw [c6]; rfl) (by decide) ?_
        exact s_lc_6 hΓ hh hkc hX hL ⟨by omega, by omega⟩ hn M h1
      rw [if_neg c6] at h1
      by_cases c7 : landI (Xi xs v3) 63 = 7
      · rw [if_pos c7] at h1
        refine a_tswIn (tgt := 585) hΓ (inR_land _ _) dL_law_33 (by rw [c7]; decide) (by rw [c7]; decide) (by rw [c7]; rfl) (by decide) ?_
        exact s_lc_7 hΓ hh hkc hX hL ⟨by omega, by omega⟩ hn M h1
      rw [if_neg c7] at h1
      by_cases c8 : landI (Xi xs v3) 63 = 8
      · rw [if_pos c8] at h1
        refine a_tswIn (tgt := 618) hΓ (inR_land _ _) dL_law_33 (by rw [c8]; decide) (by rw [c8]; decide) (by rw [c8]; rfl) (by decide) ?_
        exact s_lc_8 hΓ hh hkc hX hL ⟨by omega, by omega⟩ hn M h1
      rw [if_neg c8] at h1
      by_cases c9 : landI (Xi xs v3) 63 = 9
      · rw [if_pos c9] at h1
        refine a_tswIn (tgt := 651) hΓ (inR_land _ _) dL_law_33 (by rw [c9]; decide) (by rw [c9]; decide) (by rw [c9]; rfl) (by decide) ?_
        exact s_lc_9 hΓ hh hkc hX hL ⟨by omega, by omega⟩ hn M h1
      rw [if_neg c9] at h1
      by_cases c10 : landI (Xi xs v3) 63 = 10
      · rw [if_pos c10] at h1
        refine a_tswIn (tgt := 694) hΓ (inR_land _ _) dL_law_33 (by rw [c10]; decide) (by rw [c10]; decide) (by rw [c10]; rfl) (by decide) ?_
        exact s_lc_10 hΓ hh hkc hX hL ⟨by omega, by omega⟩ hn M h1
      rw [if_neg c10] at h1
      by_cases c11 : landI (Xi xs v3) 63 = 11
      · rw [if_pos c11] at h1
        refine a_tswIn (tgt := 747) hΓ (inR_land _ _) dL_law_33 (by rw [c11]; decide) (by rw [c11]; decide) (by rw [c11]; rfl) (by decide) ?_
        exact s_lc_11 hΓ hh hkc hX hL ⟨by omega, by omega⟩ hn M h1
      rw [if_neg c11] at h1
      by_cases c12 : landI (Xi xs v3) 63 = 12
      · rw [if_pos c12] at h1
        refine a_tswIn (tgt := 800) hΓ (inR_land _ _) dL_law_33 (by rw [c12]; decide) (by rw [c12]; decide) (by rw [c12]; rfl) (by decide) ?_
        exact s_lc_12 hΓ hh hkc hX hL ⟨by omega, by omega⟩ hn M h1
      rw [if_neg c12] at h1
      by_cases c13 : landI (Xi xs v3) 63 = 13
      · rw [if_pos c13] at h1
        refine a_tswIn (tgt := 853) hΓ (inR_land _ _) dL_law_33 (by rw [c13]; decide) (by rw [c13]; decide) (by rw [c13]; rfl) (by decide) ?_
        exact s_lc_13 hΓ hh hkc hX hL ⟨by omega, by omega⟩ hn M h1
      rw [if_neg c13] at h1
      by_cases c14 : landI (Xi xs v3) 63 = 14
      · rw [if_pos c14] at h1
        refine a_tswIn (tgt := 917) hΓ (inR_land _ _) dL_law_33 (by rw [c14]; decide) (by rw [c14]; decide) (by rw [c14]; rfl) (by decide) ?_
        exact s_lc_14 hΓ hh hkc hX hL ⟨by omega, by omega⟩ hn M h1
      rw [if_neg c14] at h1
      by_cases c15 : landI (Xi xs v3) 63 = 15
      · rw [if_pos c15] at h1
        refine a_tswIn (tgt := 970) hΓ (inR_land _ _) dL_law_33 (by rw [c15]; decide) (by rw [c15]; decide) (by rw [c15]; rfl) (by decide) ?_
        exact s_lc_15 hΓ hh hkc hX hL ⟨by omega, by omega⟩ hn M h1
      rw [if_neg c15] at h1
      by_cases c16 : landI (Xi xs v3) 63 = 16
      · rw [if_pos c16] at h1
        refine a_tswIn (tgt := 1013) hΓ (inR_land _ _) dL_law_33 (by rw [c16]; decide) (by rw [c16]; decide) (by rw [c16]; rfl) (by decide) ?_
        exact s_lc_16 hΓ hh hkc hX hL ⟨by omega, by omega⟩ hn M h1
      rw [if_neg c16] at h1
      by_cases c17 : landI (Xi xs v3) 63 = 17
      · rw [if_pos c17] at h1
        refine a_tswIn (tgt := 1046) hΓ (inR_land _ _) dL_law_33 (by rw [c17]; decide) (by rw [c17]; decide) (by rw [c17]; rfl) (by decide) ?_
        exact s_lc_17 hΓ hh hkc hX hL ⟨by omega, by omega⟩ hn M h1
      rw [if_neg c17] at h1
      by_cases c18 : landI (Xi xs v3) 63 = 18
      · rw [if_pos c18] at h1
        refine a_tswIn (tgt := 1079) hΓ (inR_land _ _) dL_law_33 (by rw [c18]; decide) (by rw [c18]; decide) (by rw [c18]; rfl) (by decide) ?_
        exact s_lc_18 hΓ hh hkc hX hL ⟨by omega, by omega⟩ hn M h1
      rw [if_neg c18] at h1
      by_cases c19 : landI (Xi xs v3) 63 = 19
      · rw [if_pos c19] at h1
        refine a_tswIn (tgt := 1102) hΓ (inR_land _ _) dL_law_33 (by rw [c19]; decide) (by rw [c19]; decide) (by rw [c19]; rfl) (by decide) ?_
        exact s_lc_19 hΓ hh hkc hX hL ⟨by omega, by omega⟩ hn M h1
      rw [if_neg c19] at h1
      by_cases c20 : landI (Xi xs v3) 63 = 20
      · rw [if_pos c20] at h1
        refine a_tswIn (tgt := 1135) hΓ (inR_land _ _) dL_law_33 (by rw [c20]; decide) (by rw [c20]; decide) (by rw [c20]; rfl) (by decide) ?_
        exact s_lc_20 hΓ hh hkc hX hL ⟨by omega, by omega⟩ hn M h1
      rw [if_neg c20] at h1
      by_cases c21 : landI (Xi xs v3) 63 = 21
      · rw [if_pos c21] at h1
        refine a_tswIn (tgt := 1158) hΓ (inR_land _ _) dL_law_33 (by rw [c21]; decide) (by rw [c21]; decide) (by rw [c21]; rfl) (by decide) ?_
        exact s_lc_21 hΓ hh hkc hX hL ⟨by omega, by omega⟩ hn M h1
      rw [if_neg c21] at h1
      by_cases c22 : landI (Xi xs v3) 63 = 22
      · rw [if_pos c22] at h1
        refine a_tswIn (tgt := 1221) hΓ (inR_land _ _) dL_law_33 (by rw [c22]; decide) (by rw [c22]; decide) (by rw [c22]; rfl) (by decide) ?_
        exact s_lc_22 hΓ hh hkc hX hL ⟨by omega, by omega⟩ hn M h1
      rw [if_neg c22] at h1
      by_cases c23 : landI (Xi xs v3) 63 = 23
      · rw [if_pos c23] at h1
        refine a_tswIn (tgt := 1244) hΓ (inR_land _ _) dL_law_33 (by rw [c23]; decide) (by rw [c23]; decide) (by rw [c23]; rfl) (by decide) ?_
        exact s_lc_23 hΓ hh hkc hX hL ⟨by omega, by omega⟩ hn M h1
      rw [if_neg c23] at h1
      by_cases c24 : landI (Xi xs v3) 63 = 24
      · rw [if_pos c24] at h1
        refine a_tswIn (tgt := 1287) hΓ (inR_land _ _) dL_law_33 (by rw [c24]; decide) (by rw [c24]; decide) (by rw [c24]; rfl) (by decide) ?_
        exact s_lc_24 hΓ hh hkc hX hL ⟨by omega, by omega⟩ hn M h1
      rw [if_neg c24] at h1
      by_cases c25 : landI (Xi xs v3) 63 = 25
      · rw [if_pos c25] at h1
        refine a_tswIn (tgt := 1300) hΓ (inR_land _ _) dL_law_33 (by rw [c25]; decide) (by rw [c25]; decide) (by rw [c25]; rfl) (by decide) ?_
        exact s_lc_25 hΓ hh hkc hX hL ⟨by omega, by omega⟩ hn M h1
      rw [if_neg c25] at h1
      by_cases c26 : landI (Xi xs v3) 63 = 26
      · rw [if_pos c26] at h1
        refine a_tswIn (tgt := 1333) hΓ (inR_land _ _) dL_law_33 (by rw [c26]; decide) (by rw [c26]; decide) (by rw [c26]; rfl) (by decide) ?_
        exact s_lc_26 hΓ hh hkc hX hL ⟨by omega, by omega⟩ hn M h1
      rw [if_neg c26] at h1
      by_cases c27 : landI (Xi xs v3) 63 = 27
      · rw [if_pos c27] at h1
        refine a_tswIn (tgt := 1356) hΓ (inR_land _ _) dL_law_33 (by rw [c27]; decide) (by rw [c27]; decide) (by rw [c27]; rfl) (by decide) ?_
        exact s_lc_27 hΓ hh hkc hX hL ⟨by omega, by omega⟩ hn M h1
      rw [if_neg c27] at h1
      by_cases c28 : landI (Xi xs v3) 63 = 28
      · rw [if_pos c28] at h1
        refine a_tswIn (tgt := 1399) hΓ (inR_land _ _) dL_law_33 (by rw [c28]; decide) (by rw [c28]; decide) (by rw [c28]; rfl) (by decide) ?_
        exact s_lc_28 hΓ hh hkc hX hL ⟨by omega, by omega⟩ hn M h1
      rw [if_neg c28] at h1
      by_cases c29 : landI (Xi xs v3) 63 = 29
      · rw [if_pos c29] at h1
        refine a_tswIn (tgt := 1422) hΓ (inR_land _ _) dL_law_33 (by rw [c29]; decide) (by rw [c29]; decide) (by rw [c29]; rfl) (by decide) ?_
        exact s_lc_29 hΓ hh hkc hX hL ⟨by omega, by omega⟩ hn M h1
      rw [if_neg c29] at h1
      by_cases c30 : landI (Xi xs v3) 63 = 30
      · rw [if_pos c30] at h1
        refine a_tswIn (tgt := 1445) hΓ (inR_land _ _) dL_law_33 (by rw [c30]; decide) (by rw [c30]; decide) (by rw [c30]; rfl) (by decide) ?_
        exact s_lc_30 hΓ hh hkc hX hL ⟨by omega, by omega⟩ hn M h1
      rw [if_neg c30] at h1
      by_cases c31 : landI (Xi xs v3) 63 = 31
      · rw [if_pos c31] at h1
        refine a_tswIn (tgt := 1458) hΓ (inR_land _ _) dL_law_33 (by rw [c31]; decide) (by rw [c31]; decide) (by rw [c31]; rfl) (by decide) ?_
        exact s_lc_31 hΓ hh hkc hX hL ⟨by omega, by omega⟩ hn M h1
      rw [if_neg c31] at h1
      by_cases c32 : landI (Xi xs v3) 63 = 32
      · rw [if_pos c32] at h1
        refine a_tswIn (tgt := 1511) hΓ (inR_land _ _) dL_law_33 (by rw [c32]; decide) (by rw [c32]; decide) (by rw [c32]; rfl) (by decide) ?_
        exact s_lc_32 hΓ hh hkc hX hL ⟨by omega, by omega⟩ hn M h1
      rw [if_neg c32] at h1
      by_cases c33 : landI (Xi xs v3) 63 = 33
      · rw [if_pos c33] at h1
        refine a_tswIn (tgt := 1575) hΓ (inR_land _ _) dL_law_33 (by rw [c33]; decide) (by rw [c33]; decide) (by rw [c33]; rfl) (by decide) ?_
        exact s_lc_33 hΓ hh hkc hX hL ⟨by omega, by omega⟩ hn M h1
      rw [if_neg c33] at h1
      by_cases c34 : landI (Xi xs v3) 63 = 34
      · rw [if_pos c34] at h1
        refine a_tswIn (tgt := 1588) hΓ (inR_land _ _) dL_law_33 (by rw [c34]; decide) (by rw [c34]; decide) (by rw [c34]; rfl) (by decide) ?_
        exact s_lc_34 hΓ hh hkc hX hL ⟨by omega, by omega⟩ hn M h1
      rw [if_neg c34] at h1
      by_cases c35 : landI (Xi xs v3) 63 = 35
      · rw [if_pos c35] at h1
        refine a_tswIn (tgt := 1621) hΓ (inR_land _ _) dL_law_33 (by rw [c35]; decide) (by rw [c35]; decide) (by rw [c35]; rfl) (by decide) ?_
        exact s_lc_35 hΓ hh hkc hX hL ⟨by omega, by omega⟩ hn M h1
      rw [if_neg c35] at h1
      by_cases c36 : landI (Xi xs v3) 63 = 36
      · rw [if_pos c36] at h1
        refine a_tswIn (tgt := 1634) hΓ (inR_land _ _) dL_law_33 (by rw [c36]; decide) (by rw [c36]; decide) (by rw [c36]; rfl) (by decide) ?_
        exact s_lc_36 hΓ hh hkc hX hL ⟨by omega, by omega⟩ hn M h1
      rw [if_neg c36] at h1
      by_cases c37 : landI (Xi xs v3) 63 = 37
      · rw [if_pos c37] at h1
        refine a_tswIn (tgt := 1657) hΓ (inR_land _ _) dL_law_33 (by rw [c37]; decide) (by rw [c37]; decide) (by rw [c37]; rfl) (by decide) ?_
        exact s_lc_37 hΓ hh hkc hX hL ⟨by omega, by omega⟩ hn M h1
      rw [if_neg c37] at h1
      by_cases c38 : landI (Xi xs v3) 63 = 38
      · rw [if_pos c38] at h1
        refine a_tswIn (tgt := 1680) hΓ (inR_land _ _) dL_law_33 (by rw [c38]; decide) (by rw [c38]; decide) (by rw [c38]; rfl) (by decide) ?_
        exact s_lc_38 hΓ hh hkc hX hL ⟨by omega, by omega⟩ hn M h1
      rw [if_neg c38] at h1
      by_cases c39 : landI (Xi xs v3) 63 = 39
      · rw [if_pos c39] at h1
        refine a_tswIn (tgt := 1703) hΓ (inR_land _ _) dL_law_33 (by rw [c39]; decide) (by rw [c39]; decide) (by rw [c39]; rfl) (by decide) ?_
        exact s_lc_39 hΓ hh hkc hX hL ⟨by omega, by omega⟩ hn M h1
      rw [if_neg c39] at h1
      refine a_tswOut (tgt := 1716) hΓ (inR_land _ _) dL_law_33 (by have := landI_63 (Xi xs v3); omega) (by decide) ?_
      exact hn M h1
    · refine a_iconst hΓ dL_law_1722 ?_
      exact hend _ M
