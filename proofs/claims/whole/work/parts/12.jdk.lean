/-- a contract out of a walk, of a method of a class of the JDK that the machine has no entry of its own for -/
theorem ct_ofF {l : Launch} {g : Gp} {y : MethodName} {bytes : ByteArray} {maxL h mc ms : Nat} {ret : Option FieldType} {av : List AV} {Z : Zm} {Q : Option AV → Zm → Prop} (hy : plainFor y = true) (hsz : avsize av ≤ maxL)
    (body : ∀ Γ : Cx, cxg Γ = g → cxl Γ = l → (cxm Γ).sig.returnType = ret → (cxm Γ).name = y.name → Ok Γ bytes y.cls maxL h mc ms → Wa Γ maxL (Kf Γ Q mc ms) 0 0 0 (avargs 0 av) [] Z) : Ct l g y bytes maxL ret h mc ms av Z Q := by
  refine va_MetF (cc := bytes) (maxL := maxL) (ret := ret) hy rfl ?_
  intro p e s m args below meth c s₁ B hml hv
  obtain ⟨rfl, hz, hP, hK, hN, hgs⟩ := hv
  have hts := atoms_spec (ws := Cond.code y bytes maxL ret :: GW) B.pre
  have hk := body (p, l, e, rmk h mc ms, s, m, (av.map (cv g)).toArray, below, meth, c, g) rfl rfl B.returns (name_of_methodNamed B.named B.method).1 ⟨B.exec, B.bytes, hml, findClass_of_methodNamed B.named, fun w hw => hts w (List.mem_cons_of_mem _ hw), hN, hK, Nat.le_refl _, Nat.le_refl _, Nat.le_refl _, Nat.le_refl _, B.notSynchronized, hgs⟩
  rw [lg_entry_eq]
  refine hk s.heap [] _ ⟨hz, hP, va_S.rf⟩ ?_
  rw [avargs_cls]
  exact lv_entry _ (by rw [avsize_sl]; exact hsz)
