/-! ===== from the law's entry to its loop ===== -/
set_option maxRecDepth 100000 in
theorem rz_eq : ∀ k, k < 126 → ∀ j, j < 48 → rz34 k j = RF k j := by decide +kernel
theorem rz_img : ∀ j : Nat, rz34 24 j = RF 24 j
  | 0 => by decide +kernel
  | 1 => by decide +kernel
  | (j + 2) => by
    have h1 : rz34 24 (j + 2) = none := rfl
    have h2 : RF 24 (j + 2) = none := rfl
    rw [h1, h2]
theorem kd_q24 : ∀ k, k < 126 → ∀ n, KD k = .inr (3, n) → k = 24 := by
  intro k hk
  have h : (List.range 126).all (fun k => match KD k with | .inr (3, _) => decide (k = 24) | _ => true) = true := by decide +kernel
  have h2 := List.all_eq_true.mp h k (List.mem_range.mpr hk)
  intro n hn
  rw [hn] at h2
  simpa using h2
theorem nf_48 : ∀ k, k < 126 → ∀ ci, KD k = .inl ci → NF ci ≤ 48 := by
  intro k hk
  have h : (List.range 126).all (fun k => match KD k with | .inl ci => decide (NF ci ≤ 48) | _ => true) = true := by decide +kernel
  have h2 := List.all_eq_true.mp h k (List.mem_range.mpr hk)
  intro n hn
  rw [hn] at h2
  simpa using h2
theorem rz_ws (g : Gp) (M : Mm) : wsOf g (126, rz34, M) = wsOf g (NC, RF, M) := by
  unfold wsOf
  apply List.map_congr_left
  intro k hk
  have hk : k < 126 := List.mem_range.mp hk
  show (g.1 + k, ent g rz34 M k) = (g.1 + k, ent g RF M k)
  congr 1
  cases hKD : KD k with
  | inl ci =>
    rw [ent_o hKD, ent_o hKD]
    congr 2
    apply List.map_congr_left
    intro j hj
    have hj := List.mem_range.mp hj
    have := nf_48 k hk ci hKD
    rw [rz_eq k hk j (by omega)]
  | inr q =>
    obtain ⟨t, n⟩ := q
    by_cases ht : t = 3
    · subst ht
      have e := kd_q24 k hk n hKD
      subst e
      rw [ent_q hKD, ent_q hKD]
      have : (fun j => (rz34 24 j).map (adr g)) = (fun j => (RF 24 j).map (adr g)) := by
        funext j
        rw [rz_img]
      rw [this]
    · rw [ent_i hKD ht, ent_i hKD ht]
theorem known_of {s : State} {args : Array Value} (hts : ∀ w ∈ GW, w.before args s = true) {ci n : Nat} {C : String} {T : u_T} (hC : CLok ci) (hq : vwCl[ci]? = some (C, T, n)) (hi : Cond.instantiable C n ∈ GW) : ∃ y : ClassId × (Nat → Nat), ∀ q, vwCl[ci]? = some q → u_Kn s q.1 q.2.1 q.2.2 y.1 y.2 := by
  unfold CLok at hC
  rw [hq] at hC
  obtain ⟨c0, iS0, h⟩ := u_known (C := C) (T := T) (N := n) (n := n) hts hC.1 (hts _ hi)
  refine ⟨(c0, iS0), fun q hq2 => ?_⟩
  rw [hq] at hq2
  cases hq2
  exact h
theorem known_all {s : State} {args : Array Value} (hts : ∀ w ∈ GW, w.before args s = true) : ∀ ci : Nat, ∃ y : ClassId × (Nat → Nat), ∀ q, vwCl[ci]? = some q → u_Kn s q.1 q.2.1 q.2.2 y.1 y.2
  | 0 => known_of hts cl_0 rfl ki_0
  | 1 => known_of hts cl_1 rfl ki_1
  | 2 => known_of hts cl_2 rfl ki_2
  | 3 => known_of hts cl_3 rfl ki_3
  | 4 => known_of hts cl_4 rfl ki_4
  | 5 => known_of hts cl_5 rfl ki_5
  | 6 => known_of hts cl_6 rfl ki_6
  | 7 => known_of hts cl_7 rfl ki_7
  | 8 => known_of hts cl_8 rfl ki_8
  | 9 => known_of hts cl_9 rfl ki_9
  | 10 => known_of hts cl_10 rfl ki_10
  | 11 => known_of hts cl_11 rfl ki_11
  | 12 => known_of hts cl_12 rfl ki_12
  | (n + 13) => ⟨(0, fun _ => 0), fun q hq => by simp [vwCl] at hq⟩
theorem arr_of {s : State} {args : Array Value} {ty : FieldType} (h : (Cond.arrayClass ty).before args s = true) : ∃ c, ArrOfT s c ty ∧ s.vm.findClass ("[" ++ ty.toString) = some c := by
  obtain ⟨c, k, comp, h1, h2, h3⟩ := Cond.arrayClass_spec h
  exact ⟨c, fun n z => ⟨fun k h => (by cases h), k, h2, comp, h3⟩, h1⟩
set_option maxHeartbeats 8000000 in
set_option maxRecDepth 100000 in
/-- the law, from its entry, if its loop comes to an end over every script -/
theorem start_of {p : Program} {e : Env} {s : State} {m : MethodId} {below : List Frame} {meth : Method} {c : Code} (l : Launch) {b L : Nat} {xs : Nat → Int32} (hL : L ≤ 3584) (hlaw : ∃ f, wlaw L xs f 0 mz34) (C0 : lw_At p s m meth c b L xs) : W p l e room_1 s m #[Value.ref b] below meth c s.heap [] 0 0 (lw_Z below #[Value.ref b] s) (entryFrame m ([Value.ref b] : List Value).toArray 4) := by
  obtain ⟨hx, hb, hr, hml, hown, hts, hX, hbl, hlocks, hgv⟩ := id C0
  have htsG : ∀ w ∈ GW, w.before #[Value.ref b] s = true := fun w hw => hts w (List.mem_filter.mp hw).1
  have hnw : ∀ w ∈ NW, va_Nw w s := by
    intro w hw
    have h1 := hts w (List.mem_filter.mp hw).1
    rcases NW_cases (List.mem_filter.mp hw).2 with ⟨_, _, _, _, rfl⟩ | ⟨_, _, _, _, _, _, rfl⟩ | ⟨C, rfl⟩
    · exact va_Nw.of rfl h1
    · exact va_Nw.of rfl h1
    · exact va_AO.of (C := C) h1
  obtain ⟨dY, hdY⟩ := Classical.axiomOfChoice (known_all htsG)
  obtain ⟨tI, hI1, hI2⟩ := arr_of (htsG _ ga_int)
  obtain ⟨tZ, hZ1, hZ2⟩ := arr_of (htsG _ ga_boolean)
  obtain ⟨tB, hB1, hB2⟩ := arr_of (htsG _ ga_byte)
  obtain ⟨comp, tK, kK, hK1, -, hK3, hK4, hK5⟩ := Cond.arrayOver_spec (va_AO.use (A := #[]) (hnw _ na_book : va_AO "ShipSkins$Book" s))
  obtain ⟨tA, hA0, hA1, hA2, hA3⟩ : ∃ tA : Nat → ClassId, tA 0 = tI ∧ tA 1 = tZ ∧ tA 2 = tB ∧ tA 3 = tK := ⟨fun k => if k = 0 then tI else if k = 1 then tZ else if k = 2 then tB else tK, rfl, rfl, rfl, rfl⟩
  have hKa : va_K ((fun k => (dY k).1), (fun k => (dY k).2)) vwCl [(tA 0, .int), (tA 1, .boolean), (tA 2, .byte), (tA 3, .object "ShipSkins$Book")] s := by
    refine ⟨fun ci q hq => hdY ci q hq, fun k q hk => ?_⟩
    match k, hk with
    | 0, hk => cases hk; rw [hA0]; exact ⟨hI1, hI2⟩
    | 1, hk => cases hk; rw [hA1]; exact ⟨hZ1, hZ2⟩
    | 2, hk => cases hk; rw [hA2]; exact ⟨hB1, hB2⟩
    | 3, hk => cases hk; rw [hA3]; exact ⟨fun n z => ⟨fun k h => (by cases h), kK, hK3, comp, hK4⟩, kK, comp, hK3, hK4, hK1, hK5⟩
    | (k + 4), hk => simp at hk
  let g : Gp := (s.heap.size, b, (fun k => (dY k).1), (fun k => (dY k).2), tA)
  let Γ : Cx := (p, l, e, room_1, s, m, #[Value.ref b], below, meth, c, g)
  have hΓ : Ok Γ code RL 4 2000 600000 7302250 := ⟨hx, hb, hml, hown, htsG, hnw, hKa, by decide, by decide, Nat.le_refl _, Nat.le_refl _, hlocks, Nat.le_refl _⟩
  have hLX : LX Γ L xs := ⟨hX, hbl, hbl, by omega⟩
  have hend : ∀ (ls : List (Nat × AV)) (M : Mm), Wa Γ 4 (lw_Z below #[Value.ref b] s) 126 271946 1723 ls [aI 1] (NC, RF, M) := by
    intro ls M H locs lsA hW hl
    refine va_forget (fun q hq => hW.2.2.2.2 q hq) ?_
    refine W.widen (k := 600000) (n := 7302250) (by decide) (by decide) ?_
    exact lw_ret hx hb hr hlocks dL_law_1723
  obtain ⟨f, hf⟩ := hlaw
  have hloop := s_wlaw (kc := 126) (ks := 271946) hΓ (by decide) ⟨by decide, by decide⟩ hLX hL hend f 0 mz34 ⟨by omega, by omega⟩ hf
  have main : Wa Γ 4 (lw_Z below #[Value.ref b] s) 0 0 0 [(0, aR 1000)] [] (0, rz0, mz0) := by
    refine a_new (N := 0) hΓ (show vwCl[11]? = some (RX11, TX11, 13) from rfl) cl_11 kl_RL_7 ki_11 kn_11 kd_0 (by decide) (fun _ => rfl) (fun _ => rfl) ⟨by decide, by decide⟩ dL_law_0 ?_
    refine a_dupR hΓ dL_law_3 ?_
    refine a_callI (c := 0) (av := []) (st := [aR 0]) hΓ (cc_X11_init_0 _ _) my_X11_init ml_RL_9 rfl ⟨by decide, by decide⟩ rfl (by decide) (by decide) ⟨by decide, by decide⟩ (Nat.le_of_ble_eq_true rfl) rfl dL_law_4 (fun v Z' hq => ?_)
    obtain ⟨rfl, rfl⟩ := hq
    refine c_k (kc' := 102) (ks' := 6601) rfl rfl (102, rz33, mz33) ?_
    refine a_astore_n (ls' := [(1, aR 0), (0, aR 1000)]) hΓ dL_law_7 rfl (by decide) rfl ?_
    refine a_new (N := 102) hΓ (show vwCl[12]? = some (RX12, TX12, 48) from rfl) cl_12 kl_RL_10 ki_12 kn_12 kd_102 (by decide) (fun _ => rfl) (fun _ => rfl) ⟨by decide, by decide⟩ dL_law_8 ?_
    refine a_dupR hΓ dL_law_11 ?_
    refine a_callI (c := 102) (av := []) (st := [aR 102]) hΓ (cc_X12_init_102 _ _) my_X12_init ml_RL_12 rfl ⟨by decide, by decide⟩ rfl (by decide) (by decide) ⟨by decide, by decide⟩ (Nat.le_of_ble_eq_true rfl) rfl dL_law_12 (fun v Z' hq => ?_)
    obtain ⟨rfl, rfl⟩ := hq
    refine c_k (kc' := 126) (ks' := 271946) rfl rfl (126, rz34, mz34) ?_
    refine a_astore_n (ls' := [(2, aR 102), (1, aR 0), (0, aR 1000)]) hΓ dL_law_15 rfl (by decide) rfl ?_
    refine a_iconst hΓ dL_law_16 ?_
    refine a_istore_n (ls' := [(3, aI 0), (2, aR 102), (1, aR 0), (0, aR 1000)]) hΓ dL_law_17 rfl (by decide) rfl ?_
    refine a_sub (ls' := [(0, aR 1000), (1, aR 0), (2, aR 102), (3, aI 0)]) [3, 2, 1, 0] rfl ?_
    intro H locs lsA hW hl
    refine hloop H locs lsA ⟨fun q => absurd q (Nat.lt_irrefl _), ?_, hW.2.2⟩ hl
    have := hW.2.1
    rw [rz_ws] at this
    exact this
  have hl := lv_entry ([.ref b]) (n := 4) (Nat.le_of_ble_eq_true rfl)
  rw [lg_entry_eq]
  exact main s.heap [] _ ⟨fun _ => rfl, fun k q h => by simp [wsOf] at h, va_S.rf⟩ hl
