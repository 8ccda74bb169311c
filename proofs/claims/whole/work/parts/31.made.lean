/-! ===== printed by tools/ctorgen.py: what the two constructors make ===== -/
set_option maxRecDepth 100000 in
theorem ga_int : Cond.arrayClass (newarray.typeOf .int) ∈ GW := (gt_1 67 rfl rfl)
set_option maxRecDepth 100000 in
theorem ga_boolean : Cond.arrayClass (newarray.typeOf .boolean) ∈ GW := (gt_1 124 rfl rfl)
set_option maxRecDepth 100000 in
theorem ga_byte : Cond.arrayClass (newarray.typeOf .byte) ∈ GW := (gt_6 63 rfl rfl)
set_option maxRecDepth 100000 in
theorem na_book : Cond.arrayOver (.object "ShipSkins$Book") ∈ NW := (nt_1 194 rfl rfl)
set_option maxRecDepth 100000 in
theorem kl_RX11_7 : Cond.classLink RX11 7 RX0 ∈ GW := (gt_1 25 rfl rfl)
set_option maxRecDepth 100000 in
theorem kl_RX11_24 : Cond.classLink RX11 24 RX6 ∈ GW := (gt_1 195 rfl rfl)
set_option maxRecDepth 100000 in
theorem kl_RX11_33 : Cond.classLink RX11 33 RX2 ∈ GW := (gt_2 25 rfl rfl)
set_option maxRecDepth 100000 in
theorem kl_RX11_42 : Cond.classLink RX11 42 RX1 ∈ GW := (gt_2 56 rfl rfl)
set_option maxRecDepth 100000 in
theorem kl_RX11_51 : Cond.classLink RX11 51 RX8 ∈ GW := (gt_2 73 rfl rfl)
set_option maxRecDepth 100000 in
theorem kl_RX11_58 : Cond.classLink RX11 58 RX10 ∈ GW := (gt_2 100 rfl rfl)
set_option maxRecDepth 100000 in
theorem kl_RX11_65 : Cond.classLink RX11 65 RX5 ∈ GW := (gt_2 136 rfl rfl)
set_option maxRecDepth 100000 in
theorem kl_RX11_72 : Cond.classLink RX11 72 RX7 ∈ GW := (gt_2 219 rfl rfl)
set_option maxRecDepth 100000 in
theorem kl_RX0_40 : Cond.classLink RX0 40 RX3 ∈ GW := (gt_1 31 rfl rfl)
set_option maxRecDepth 100000 in
theorem kl_RX0_47 : Cond.classLink RX0 47 RX4 ∈ GW := (gt_1 68 rfl rfl)
set_option maxRecDepth 100000 in
theorem kl_RX5_9 : Cond.classLink RX5 9 RX9 ∈ GW := (gt_2 142 rfl rfl)
set_option maxRecDepth 100000 in
theorem kl_RL_7 : Cond.classLink RL 7 RX11 ∈ GW := (gt_1 17 rfl rfl)
set_option maxRecDepth 100000 in
theorem kl_RL_10 : Cond.classLink RL 10 RX12 ∈ GW := (gt_5 151 rfl rfl)
set_option maxRecDepth 100000 in
theorem ki_0 : Cond.instantiable RX0 15 ∈ GW := (gt_1 26 rfl rfl)
set_option maxRecDepth 100000 in
theorem kn_0 : Cond.initialized RX0 ∈ GW := (gt_1 2 rfl rfl)
set_option maxRecDepth 100000 in
theorem ki_1 : Cond.instantiable RX1 3 ∈ GW := (gt_2 57 rfl rfl)
set_option maxRecDepth 100000 in
theorem kn_1 : Cond.initialized RX1 ∈ GW := (gt_1 7 rfl rfl)
set_option maxRecDepth 100000 in
theorem ki_2 : Cond.instantiable RX2 5 ∈ GW := (gt_2 26 rfl rfl)
set_option maxRecDepth 100000 in
theorem kn_2 : Cond.initialized RX2 ∈ GW := (gt_1 6 rfl rfl)
set_option maxRecDepth 100000 in
theorem ki_3 : Cond.instantiable RX3 7 ∈ GW := (gt_1 32 rfl rfl)
set_option maxRecDepth 100000 in
theorem kn_3 : Cond.initialized RX3 ∈ GW := (gt_1 3 rfl rfl)
set_option maxRecDepth 100000 in
theorem ki_4 : Cond.instantiable RX4 9 ∈ GW := (gt_1 69 rfl rfl)
set_option maxRecDepth 100000 in
theorem kn_4 : Cond.initialized RX4 ∈ GW := (gt_1 4 rfl rfl)
set_option maxRecDepth 100000 in
theorem ki_5 : Cond.instantiable RX5 14 ∈ GW := (gt_2 137 rfl rfl)
set_option maxRecDepth 100000 in
theorem kn_5 : Cond.initialized RX5 ∈ GW := (gt_1 10 rfl rfl)
set_option maxRecDepth 100000 in
theorem ki_6 : Cond.instantiable RX6 13 ∈ GW := (gt_1 196 rfl rfl)
set_option maxRecDepth 100000 in
theorem kn_6 : Cond.initialized RX6 ∈ GW := (gt_1 5 rfl rfl)
set_option maxRecDepth 100000 in
theorem ki_7 : Cond.instantiable RX7 3 ∈ GW := (gt_2 220 rfl rfl)
set_option maxRecDepth 100000 in
theorem kn_7 : Cond.initialized RX7 ∈ GW := (gt_1 12 rfl rfl)
set_option maxRecDepth 100000 in
theorem ki_8 : Cond.instantiable RX8 6 ∈ GW := (gt_2 74 rfl rfl)
set_option maxRecDepth 100000 in
theorem kn_8 : Cond.initialized RX8 ∈ GW := (gt_1 8 rfl rfl)
set_option maxRecDepth 100000 in
theorem ki_9 : Cond.instantiable RX9 7 ∈ GW := (gt_2 143 rfl rfl)
set_option maxRecDepth 100000 in
theorem kn_9 : Cond.initialized RX9 ∈ GW := (gt_1 11 rfl rfl)
set_option maxRecDepth 100000 in
theorem ki_10 : Cond.instantiable RX10 9 ∈ GW := (gt_2 101 rfl rfl)
set_option maxRecDepth 100000 in
theorem kn_10 : Cond.initialized RX10 ∈ GW := (gt_1 9 rfl rfl)
set_option maxRecDepth 100000 in
theorem ki_11 : Cond.instantiable RX11 13 ∈ GW := (gt_1 18 rfl rfl)
set_option maxRecDepth 100000 in
theorem kn_11 : Cond.initialized RX11 ∈ GW := (gt_1 1 rfl rfl)
set_option maxRecDepth 100000 in
theorem ki_12 : Cond.instantiable RX12 48 ∈ GW := (gt_5 152 rfl rfl)
set_option maxRecDepth 100000 in
theorem kn_12 : Cond.initialized RX12 ∈ GW := (gt_1 13 rfl rfl)
set_option maxRecDepth 100000 in
theorem ff_RX11_10 : ∀ q, vwCl[11]? = some q → (q.2.1 0).2.2.2 = true ∧ q.1 = RX11 ∧ Cond.fieldLink RX11 10 q.1 (q.2.1 0).2.1 (q.2.1 0).2.2.1 ∈ GW := fun q h => by cases h; exact ⟨rfl, rfl, (gt_2 237 rfl rfl)⟩
set_option maxRecDepth 100000 in
theorem ff_RX11_16 : ∀ q, vwCl[11]? = some q → (q.2.1 1).2.2.2 = true ∧ q.1 = RX11 ∧ Cond.fieldLink RX11 16 q.1 (q.2.1 1).2.1 (q.2.1 1).2.2.1 ∈ GW := fun q h => by cases h; exact ⟨rfl, rfl, (gt_2 238 rfl rfl)⟩
set_option maxRecDepth 100000 in
theorem ff_RX11_20 : ∀ q, vwCl[11]? = some q → (q.2.1 2).2.2.2 = true ∧ q.1 = RX11 ∧ Cond.fieldLink RX11 20 q.1 (q.2.1 2).2.1 (q.2.1 2).2.2.1 ∈ GW := fun q h => by cases h; exact ⟨rfl, rfl, (gt_2 239 rfl rfl)⟩
set_option maxRecDepth 100000 in
theorem ff_RX11_29 : ∀ q, vwCl[11]? = some q → (q.2.1 3).2.2.2 = true ∧ q.1 = RX11 ∧ Cond.fieldLink RX11 29 q.1 (q.2.1 3).2.1 (q.2.1 3).2.2.1 ∈ GW := fun q h => by cases h; exact ⟨rfl, rfl, (gt_3 0 rfl rfl)⟩
set_option maxRecDepth 100000 in
theorem ff_RX11_38 : ∀ q, vwCl[11]? = some q → (q.2.1 4).2.2.2 = true ∧ q.1 = RX11 ∧ Cond.fieldLink RX11 38 q.1 (q.2.1 4).2.1 (q.2.1 4).2.2.1 ∈ GW := fun q h => by cases h; exact ⟨rfl, rfl, (gt_3 1 rfl rfl)⟩
set_option maxRecDepth 100000 in
theorem ff_RX11_47 : ∀ q, vwCl[11]? = some q → (q.2.1 5).2.2.2 = true ∧ q.1 = RX11 ∧ Cond.fieldLink RX11 47 q.1 (q.2.1 5).2.1 (q.2.1 5).2.2.1 ∈ GW := fun q h => by cases h; exact ⟨rfl, rfl, (gt_3 2 rfl rfl)⟩
set_option maxRecDepth 100000 in
theorem ff_RX11_54 : ∀ q, vwCl[11]? = some q → (q.2.1 6).2.2.2 = true ∧ q.1 = RX11 ∧ Cond.fieldLink RX11 54 q.1 (q.2.1 6).2.1 (q.2.1 6).2.2.1 ∈ GW := fun q h => by cases h; exact ⟨rfl, rfl, (gt_3 3 rfl rfl)⟩
set_option maxRecDepth 100000 in
theorem ff_RX11_61 : ∀ q, vwCl[11]? = some q → (q.2.1 7).2.2.2 = true ∧ q.1 = RX11 ∧ Cond.fieldLink RX11 61 q.1 (q.2.1 7).2.1 (q.2.1 7).2.2.1 ∈ GW := fun q h => by cases h; exact ⟨rfl, rfl, (gt_3 4 rfl rfl)⟩
set_option maxRecDepth 100000 in
theorem ff_RX11_68 : ∀ q, vwCl[11]? = some q → (q.2.1 8).2.2.2 = true ∧ q.1 = RX11 ∧ Cond.fieldLink RX11 68 q.1 (q.2.1 8).2.1 (q.2.1 8).2.2.1 ∈ GW := fun q h => by cases h; exact ⟨rfl, rfl, (gt_3 5 rfl rfl)⟩
set_option maxRecDepth 100000 in
theorem ff_RX11_75 : ∀ q, vwCl[11]? = some q → (q.2.1 9).2.2.2 = true ∧ q.1 = RX11 ∧ Cond.fieldLink RX11 75 q.1 (q.2.1 9).2.1 (q.2.1 9).2.2.1 ∈ GW := fun q h => by cases h; exact ⟨rfl, rfl, (gt_3 6 rfl rfl)⟩
set_option maxRecDepth 100000 in
theorem ff_RX0_21 : ∀ q, vwCl[0]? = some q → (q.2.1 7).2.2.2 = true ∧ q.1 = RX0 ∧ Cond.fieldLink RX0 21 q.1 (q.2.1 7).2.1 (q.2.1 7).2.2.1 ∈ GW := fun q h => by cases h; exact ⟨rfl, rfl, (gt_1 142 rfl rfl)⟩
set_option maxRecDepth 100000 in
theorem ff_RX0_25 : ∀ q, vwCl[0]? = some q → (q.2.1 8).2.2.2 = true ∧ q.1 = RX0 ∧ Cond.fieldLink RX0 25 q.1 (q.2.1 8).2.1 (q.2.1 8).2.2.1 ∈ GW := fun q h => by cases h; exact ⟨rfl, rfl, (gt_1 145 rfl rfl)⟩
set_option maxRecDepth 100000 in
theorem ff_RX0_28 : ∀ q, vwCl[0]? = some q → (q.2.1 9).2.2.2 = true ∧ q.1 = RX0 ∧ Cond.fieldLink RX0 28 q.1 (q.2.1 9).2.1 (q.2.1 9).2.2.1 ∈ GW := fun q h => by cases h; exact ⟨rfl, rfl, (gt_1 147 rfl rfl)⟩
set_option maxRecDepth 100000 in
theorem ff_RX0_31 : ∀ q, vwCl[0]? = some q → (q.2.1 10).2.2.2 = true ∧ q.1 = RX0 ∧ Cond.fieldLink RX0 31 q.1 (q.2.1 10).2.1 (q.2.1 10).2.2.1 ∈ GW := fun q h => by cases h; exact ⟨rfl, rfl, (gt_1 149 rfl rfl)⟩
set_option maxRecDepth 100000 in
theorem ff_RX0_34 : ∀ q, vwCl[0]? = some q → (q.2.1 11).2.2.2 = true ∧ q.1 = RX0 ∧ Cond.fieldLink RX0 34 q.1 (q.2.1 11).2.1 (q.2.1 11).2.2.1 ∈ GW := fun q h => by cases h; exact ⟨rfl, rfl, (gt_1 151 rfl rfl)⟩
set_option maxRecDepth 100000 in
theorem ff_RX0_37 : ∀ q, vwCl[0]? = some q → (q.2.1 12).2.2.2 = true ∧ q.1 = RX0 ∧ Cond.fieldLink RX0 37 q.1 (q.2.1 12).2.1 (q.2.1 12).2.2.1 ∈ GW := fun q h => by cases h; exact ⟨rfl, rfl, (gt_1 153 rfl rfl)⟩
set_option maxRecDepth 100000 in
theorem ff_RX0_43 : ∀ q, vwCl[0]? = some q → (q.2.1 13).2.2.2 = true ∧ q.1 = RX0 ∧ Cond.fieldLink RX0 43 q.1 (q.2.1 13).2.1 (q.2.1 13).2.2.1 ∈ GW := fun q h => by cases h; exact ⟨rfl, rfl, (gt_1 155 rfl rfl)⟩
set_option maxRecDepth 100000 in
theorem ff_RX0_50 : ∀ q, vwCl[0]? = some q → (q.2.1 14).2.2.2 = true ∧ q.1 = RX0 ∧ Cond.fieldLink RX0 50 q.1 (q.2.1 14).2.1 (q.2.1 14).2.2.1 ∈ GW := fun q h => by cases h; exact ⟨rfl, rfl, (gt_1 159 rfl rfl)⟩
set_option maxRecDepth 100000 in
theorem ff_RX1_9 : ∀ q, vwCl[1]? = some q → (q.2.1 0).2.2.2 = true ∧ q.1 = RX1 ∧ Cond.fieldLink RX1 9 q.1 (q.2.1 0).2.1 (q.2.1 0).2.2.1 ∈ GW := fun q h => by cases h; exact ⟨rfl, rfl, (gt_2 62 rfl rfl)⟩
set_option maxRecDepth 100000 in
theorem ff_RX2_9 : ∀ q, vwCl[2]? = some q → (q.2.1 2).2.2.2 = true ∧ q.1 = RX2 ∧ Cond.fieldLink RX2 9 q.1 (q.2.1 2).2.1 (q.2.1 2).2.2.1 ∈ GW := fun q h => by cases h; exact ⟨rfl, rfl, (gt_2 36 rfl rfl)⟩
set_option maxRecDepth 100000 in
theorem ff_RX2_15 : ∀ q, vwCl[2]? = some q → (q.2.1 0).2.2.2 = true ∧ q.1 = RX2 ∧ Cond.fieldLink RX2 15 q.1 (q.2.1 0).2.1 (q.2.1 0).2.2.1 ∈ GW := fun q h => by cases h; exact ⟨rfl, rfl, (gt_2 31 rfl rfl)⟩
set_option maxRecDepth 100000 in
theorem ff_RX2_36 : ∀ q, vwCl[2]? = some q → (q.2.1 1).2.2.2 = true ∧ q.1 = RX2 ∧ Cond.fieldLink RX2 36 q.1 (q.2.1 1).2.1 (q.2.1 1).2.2.1 ∈ GW := fun q h => by cases h; exact ⟨rfl, rfl, (gt_2 32 rfl rfl)⟩
set_option maxRecDepth 100000 in
theorem ff_RX3_9 : ∀ q, vwCl[3]? = some q → (q.2.1 1).2.2.2 = true ∧ q.1 = RX3 ∧ Cond.fieldLink RX3 9 q.1 (q.2.1 1).2.1 (q.2.1 1).2.2.1 ∈ GW := fun q h => by cases h; exact ⟨rfl, rfl, (gt_1 40 rfl rfl)⟩
set_option maxRecDepth 100000 in
theorem ff_RX3_15 : ∀ q, vwCl[3]? = some q → (q.2.1 2).2.2.2 = true ∧ q.1 = RX3 ∧ Cond.fieldLink RX3 15 q.1 (q.2.1 2).2.1 (q.2.1 2).2.2.1 ∈ GW := fun q h => by cases h; exact ⟨rfl, rfl, (gt_1 42 rfl rfl)⟩
set_option maxRecDepth 100000 in
theorem ff_RX3_18 : ∀ q, vwCl[3]? = some q → (q.2.1 3).2.2.2 = true ∧ q.1 = RX3 ∧ Cond.fieldLink RX3 18 q.1 (q.2.1 3).2.1 (q.2.1 3).2.2.1 ∈ GW := fun q h => by cases h; exact ⟨rfl, rfl, (gt_1 44 rfl rfl)⟩
set_option maxRecDepth 100000 in
theorem ff_RX3_21 : ∀ q, vwCl[3]? = some q → (q.2.1 4).2.2.2 = true ∧ q.1 = RX3 ∧ Cond.fieldLink RX3 21 q.1 (q.2.1 4).2.1 (q.2.1 4).2.2.1 ∈ GW := fun q h => by cases h; exact ⟨rfl, rfl, (gt_1 46 rfl rfl)⟩
set_option maxRecDepth 100000 in
theorem ff_RX3_24 : ∀ q, vwCl[3]? = some q → (q.2.1 5).2.2.2 = true ∧ q.1 = RX3 ∧ Cond.fieldLink RX3 24 q.1 (q.2.1 5).2.1 (q.2.1 5).2.2.1 ∈ GW := fun q h => by cases h; exact ⟨rfl, rfl, (gt_1 48 rfl rfl)⟩
set_option maxRecDepth 100000 in
theorem ff_RX3_27 : ∀ q, vwCl[3]? = some q → (q.2.1 6).2.2.2 = true ∧ q.1 = RX3 ∧ Cond.fieldLink RX3 27 q.1 (q.2.1 6).2.1 (q.2.1 6).2.2.1 ∈ GW := fun q h => by cases h; exact ⟨rfl, rfl, (gt_1 50 rfl rfl)⟩
set_option maxRecDepth 100000 in
theorem ff_RX4_9 : ∀ q, vwCl[4]? = some q → (q.2.1 1).2.2.2 = true ∧ q.1 = RX4 ∧ Cond.fieldLink RX4 9 q.1 (q.2.1 1).2.1 (q.2.1 1).2.2.1 ∈ GW := fun q h => by cases h; exact ⟨rfl, rfl, (gt_1 78 rfl rfl)⟩
set_option maxRecDepth 100000 in
theorem ff_RX4_15 : ∀ q, vwCl[4]? = some q → (q.2.1 2).2.2.2 = true ∧ q.1 = RX4 ∧ Cond.fieldLink RX4 15 q.1 (q.2.1 2).2.1 (q.2.1 2).2.2.1 ∈ GW := fun q h => by cases h; exact ⟨rfl, rfl, (gt_1 81 rfl rfl)⟩
set_option maxRecDepth 100000 in
theorem ff_RX4_18 : ∀ q, vwCl[4]? = some q → (q.2.1 3).2.2.2 = true ∧ q.1 = RX4 ∧ Cond.fieldLink RX4 18 q.1 (q.2.1 3).2.1 (q.2.1 3).2.2.1 ∈ GW := fun q h => by cases h; exact ⟨rfl, rfl, (gt_1 86 rfl rfl)⟩
set_option maxRecDepth 100000 in
theorem ff_RX4_21 : ∀ q, vwCl[4]? = some q → (q.2.1 4).2.2.2 = true ∧ q.1 = RX4 ∧ Cond.fieldLink RX4 21 q.1 (q.2.1 4).2.1 (q.2.1 4).2.2.1 ∈ GW := fun q h => by cases h; exact ⟨rfl, rfl, (gt_1 89 rfl rfl)⟩
set_option maxRecDepth 100000 in
theorem ff_RX4_24 : ∀ q, vwCl[4]? = some q → (q.2.1 5).2.2.2 = true ∧ q.1 = RX4 ∧ Cond.fieldLink RX4 24 q.1 (q.2.1 5).2.1 (q.2.1 5).2.2.1 ∈ GW := fun q h => by cases h; exact ⟨rfl, rfl, (gt_1 93 rfl rfl)⟩
set_option maxRecDepth 100000 in
theorem ff_RX4_27 : ∀ q, vwCl[4]? = some q → (q.2.1 6).2.2.2 = true ∧ q.1 = RX4 ∧ Cond.fieldLink RX4 27 q.1 (q.2.1 6).2.1 (q.2.1 6).2.2.1 ∈ GW := fun q h => by cases h; exact ⟨rfl, rfl, (gt_1 96 rfl rfl)⟩
set_option maxRecDepth 100000 in
theorem ff_RX4_30 : ∀ q, vwCl[4]? = some q → (q.2.1 7).2.2.2 = true ∧ q.1 = RX4 ∧ Cond.fieldLink RX4 30 q.1 (q.2.1 7).2.1 (q.2.1 7).2.2.1 ∈ GW := fun q h => by cases h; exact ⟨rfl, rfl, (gt_1 99 rfl rfl)⟩
set_option maxRecDepth 100000 in
theorem ff_RX4_34 : ∀ q, vwCl[4]? = some q → (q.2.1 8).2.2.2 = true ∧ q.1 = RX4 ∧ Cond.fieldLink RX4 34 q.1 (q.2.1 8).2.1 (q.2.1 8).2.2.1 ∈ GW := fun q h => by cases h; exact ⟨rfl, rfl, (gt_1 102 rfl rfl)⟩
set_option maxRecDepth 100000 in
theorem ff_RX5_12 : ∀ q, vwCl[5]? = some q → (q.2.1 1).2.2.2 = true ∧ q.1 = RX5 ∧ Cond.fieldLink RX5 12 q.1 (q.2.1 1).2.1 (q.2.1 1).2.2.1 ∈ GW := fun q h => by cases h; exact ⟨rfl, rfl, (gt_2 173 rfl rfl)⟩
set_option maxRecDepth 100000 in
theorem ff_RX5_18 : ∀ q, vwCl[5]? = some q → (q.2.1 2).2.2.2 = true ∧ q.1 = RX5 ∧ Cond.fieldLink RX5 18 q.1 (q.2.1 2).2.1 (q.2.1 2).2.2.1 ∈ GW := fun q h => by cases h; exact ⟨rfl, rfl, (gt_2 174 rfl rfl)⟩
set_option maxRecDepth 100000 in
theorem ff_RX5_22 : ∀ q, vwCl[5]? = some q → (q.2.1 3).2.2.2 = true ∧ q.1 = RX5 ∧ Cond.fieldLink RX5 22 q.1 (q.2.1 3).2.1 (q.2.1 3).2.2.1 ∈ GW := fun q h => by cases h; exact ⟨rfl, rfl, (gt_2 175 rfl rfl)⟩
set_option maxRecDepth 100000 in
theorem ff_RX5_25 : ∀ q, vwCl[5]? = some q → (q.2.1 4).2.2.2 = true ∧ q.1 = RX5 ∧ Cond.fieldLink RX5 25 q.1 (q.2.1 4).2.1 (q.2.1 4).2.2.1 ∈ GW := fun q h => by cases h; exact ⟨rfl, rfl, (gt_2 176 rfl rfl)⟩
set_option maxRecDepth 100000 in
theorem ff_RX5_28 : ∀ q, vwCl[5]? = some q → (q.2.1 5).2.2.2 = true ∧ q.1 = RX5 ∧ Cond.fieldLink RX5 28 q.1 (q.2.1 5).2.1 (q.2.1 5).2.2.1 ∈ GW := fun q h => by cases h; exact ⟨rfl, rfl, (gt_2 177 rfl rfl)⟩
set_option maxRecDepth 100000 in
theorem ff_RX5_31 : ∀ q, vwCl[5]? = some q → (q.2.1 6).2.2.2 = true ∧ q.1 = RX5 ∧ Cond.fieldLink RX5 31 q.1 (q.2.1 6).2.1 (q.2.1 6).2.2.1 ∈ GW := fun q h => by cases h; exact ⟨rfl, rfl, (gt_2 178 rfl rfl)⟩
set_option maxRecDepth 100000 in
theorem ff_RX5_34 : ∀ q, vwCl[5]? = some q → (q.2.1 13).2.2.2 = true ∧ q.1 = RX5 ∧ Cond.fieldLink RX5 34 q.1 (q.2.1 13).2.1 (q.2.1 13).2.2.1 ∈ GW := fun q h => by cases h; exact ⟨rfl, rfl, (gt_2 188 rfl rfl)⟩
set_option maxRecDepth 100000 in
theorem ff_RX5_37 : ∀ q, vwCl[5]? = some q → (q.2.1 0).2.2.2 = true ∧ q.1 = RX5 ∧ Cond.fieldLink RX5 37 q.1 (q.2.1 0).2.1 (q.2.1 0).2.2.1 ∈ GW := fun q h => by cases h; exact ⟨rfl, rfl, (gt_2 172 rfl rfl)⟩
set_option maxRecDepth 100000 in
theorem ff_RX6_9 : ∀ q, vwCl[6]? = some q → (q.2.1 2).2.2.2 = true ∧ q.1 = RX6 ∧ Cond.fieldLink RX6 9 q.1 (q.2.1 2).2.1 (q.2.1 2).2.2.1 ∈ GW := fun q h => by cases h; exact ⟨rfl, rfl, (gt_1 206 rfl rfl)⟩
set_option maxRecDepth 100000 in
theorem ff_RX6_15 : ∀ q, vwCl[6]? = some q → (q.2.1 3).2.2.2 = true ∧ q.1 = RX6 ∧ Cond.fieldLink RX6 15 q.1 (q.2.1 3).2.1 (q.2.1 3).2.2.1 ∈ GW := fun q h => by cases h; exact ⟨rfl, rfl, (gt_1 207 rfl rfl)⟩
set_option maxRecDepth 100000 in
theorem ff_RX6_18 : ∀ q, vwCl[6]? = some q → (q.2.1 4).2.2.2 = true ∧ q.1 = RX6 ∧ Cond.fieldLink RX6 18 q.1 (q.2.1 4).2.1 (q.2.1 4).2.2.1 ∈ GW := fun q h => by cases h; exact ⟨rfl, rfl, (gt_1 209 rfl rfl)⟩
set_option maxRecDepth 100000 in
theorem ff_RX6_21 : ∀ q, vwCl[6]? = some q → (q.2.1 5).2.2.2 = true ∧ q.1 = RX6 ∧ Cond.fieldLink RX6 21 q.1 (q.2.1 5).2.1 (q.2.1 5).2.2.1 ∈ GW := fun q h => by cases h; exact ⟨rfl, rfl, (gt_1 212 rfl rfl)⟩
set_option maxRecDepth 100000 in
theorem ff_RX6_24 : ∀ q, vwCl[6]? = some q → (q.2.1 6).2.2.2 = true ∧ q.1 = RX6 ∧ Cond.fieldLink RX6 24 q.1 (q.2.1 6).2.1 (q.2.1 6).2.2.1 ∈ GW := fun q h => by cases h; exact ⟨rfl, rfl, (gt_1 216 rfl rfl)⟩
set_option maxRecDepth 100000 in
theorem ff_RX6_27 : ∀ q, vwCl[6]? = some q → (q.2.1 7).2.2.2 = true ∧ q.1 = RX6 ∧ Cond.fieldLink RX6 27 q.1 (q.2.1 7).2.1 (q.2.1 7).2.2.1 ∈ GW := fun q h => by cases h; exact ⟨rfl, rfl, (gt_1 219 rfl rfl)⟩
set_option maxRecDepth 100000 in
theorem ff_RX6_31 : ∀ q, vwCl[6]? = some q → (q.2.1 9).2.2.2 = true ∧ q.1 = RX6 ∧ Cond.fieldLink RX6 31 q.1 (q.2.1 9).2.1 (q.2.1 9).2.2.1 ∈ GW := fun q h => by cases h; exact ⟨rfl, rfl, (gt_1 225 rfl rfl)⟩
set_option maxRecDepth 100000 in
theorem ff_RX6_34 : ∀ q, vwCl[6]? = some q → (q.2.1 10).2.2.2 = true ∧ q.1 = RX6 ∧ Cond.fieldLink RX6 34 q.1 (q.2.1 10).2.1 (q.2.1 10).2.2.1 ∈ GW := fun q h => by cases h; exact ⟨rfl, rfl, (gt_1 229 rfl rfl)⟩
set_option maxRecDepth 100000 in
theorem ff_RX6_37 : ∀ q, vwCl[6]? = some q → (q.2.1 11).2.2.2 = true ∧ q.1 = RX6 ∧ Cond.fieldLink RX6 37 q.1 (q.2.1 11).2.1 (q.2.1 11).2.2.1 ∈ GW := fun q h => by cases h; exact ⟨rfl, rfl, (gt_1 233 rfl rfl)⟩
set_option maxRecDepth 100000 in
theorem ff_RX6_40 : ∀ q, vwCl[6]? = some q → (q.2.1 12).2.2.2 = true ∧ q.1 = RX6 ∧ Cond.fieldLink RX6 40 q.1 (q.2.1 12).2.1 (q.2.1 12).2.2.1 ∈ GW := fun q h => by cases h; exact ⟨rfl, rfl, (gt_1 235 rfl rfl)⟩
set_option maxRecDepth 100000 in
theorem ff_RX6_43 : ∀ q, vwCl[6]? = some q → (q.2.1 0).2.2.2 = true ∧ q.1 = RX6 ∧ Cond.fieldLink RX6 43 q.1 (q.2.1 0).2.1 (q.2.1 0).2.2.1 ∈ GW := fun q h => by cases h; exact ⟨rfl, rfl, (gt_1 202 rfl rfl)⟩
set_option maxRecDepth 100000 in
theorem ff_RX7_9 : ∀ q, vwCl[7]? = some q → (q.2.1 2).2.2.2 = true ∧ q.1 = RX7 ∧ Cond.fieldLink RX7 9 q.1 (q.2.1 2).2.1 (q.2.1 2).2.2.1 ∈ GW := fun q h => by cases h; exact ⟨rfl, rfl, (gt_2 228 rfl rfl)⟩
set_option maxRecDepth 100000 in
theorem ff_RX7_15 : ∀ q, vwCl[7]? = some q → (q.2.1 0).2.2.2 = true ∧ q.1 = RX7 ∧ Cond.fieldLink RX7 15 q.1 (q.2.1 0).2.1 (q.2.1 0).2.2.1 ∈ GW := fun q h => by cases h; exact ⟨rfl, rfl, (gt_2 225 rfl rfl)⟩
set_option maxRecDepth 100000 in
theorem ff_RX8_11 : ∀ q, vwCl[8]? = some q → (q.2.1 1).2.2.2 = true ∧ q.1 = RX8 ∧ Cond.fieldLink RX8 11 q.1 (q.2.1 1).2.1 (q.2.1 1).2.2.1 ∈ GW := fun q h => by cases h; exact ⟨rfl, rfl, (gt_2 80 rfl rfl)⟩
set_option maxRecDepth 100000 in
theorem ff_RX8_15 : ∀ q, vwCl[8]? = some q → (q.2.1 0).2.2.2 = true ∧ q.1 = RX8 ∧ Cond.fieldLink RX8 15 q.1 (q.2.1 0).2.1 (q.2.1 0).2.2.1 ∈ GW := fun q h => by cases h; exact ⟨rfl, rfl, (gt_2 79 rfl rfl)⟩
set_option maxRecDepth 100000 in
theorem ff_RX9_11 : ∀ q, vwCl[9]? = some q → (q.2.1 5).2.2.2 = true ∧ q.1 = RX9 ∧ Cond.fieldLink RX9 11 q.1 (q.2.1 5).2.1 (q.2.1 5).2.2.1 ∈ GW := fun q h => by cases h; exact ⟨rfl, rfl, (gt_2 155 rfl rfl)⟩
set_option maxRecDepth 100000 in
theorem ff_RX9_15 : ∀ q, vwCl[9]? = some q → (q.2.1 6).2.2.2 = true ∧ q.1 = RX9 ∧ Cond.fieldLink RX9 15 q.1 (q.2.1 6).2.1 (q.2.1 6).2.2.1 ∈ GW := fun q h => by cases h; exact ⟨rfl, rfl, (gt_2 156 rfl rfl)⟩
set_option maxRecDepth 100000 in
theorem ff_RX10_11 : ∀ q, vwCl[10]? = some q → (q.2.1 1).2.2.2 = true ∧ q.1 = RX10 ∧ Cond.fieldLink RX10 11 q.1 (q.2.1 1).2.1 (q.2.1 1).2.2.1 ∈ GW := fun q h => by cases h; exact ⟨rfl, rfl, (gt_2 107 rfl rfl)⟩
set_option maxRecDepth 100000 in
theorem ff_RX10_19 : ∀ q, vwCl[10]? = some q → (q.2.1 0).2.2.2 = true ∧ q.1 = RX10 ∧ Cond.fieldLink RX10 19 q.1 (q.2.1 0).2.1 (q.2.1 0).2.2.1 ∈ GW := fun q h => by cases h; exact ⟨rfl, rfl, (gt_2 106 rfl rfl)⟩
set_option maxRecDepth 100000 in
theorem ff_RX12_17 : ∀ q, vwCl[12]? = some q → (q.2.1 1).2.2.2 = true ∧ q.1 = RX12 ∧ Cond.fieldLink RX12 17 q.1 (q.2.1 1).2.1 (q.2.1 1).2.2.1 ∈ GW := fun q h => by cases h; exact ⟨rfl, rfl, (gt_5 159 rfl rfl)⟩
set_option maxRecDepth 100000 in
theorem ff_RX12_21 : ∀ q, vwCl[12]? = some q → (q.2.1 2).2.2.2 = true ∧ q.1 = RX12 ∧ Cond.fieldLink RX12 21 q.1 (q.2.1 2).2.1 (q.2.1 2).2.2.1 ∈ GW := fun q h => by cases h; exact ⟨rfl, rfl, (gt_5 160 rfl rfl)⟩
set_option maxRecDepth 100000 in
theorem ff_RX12_24 : ∀ q, vwCl[12]? = some q → (q.2.1 3).2.2.2 = true ∧ q.1 = RX12 ∧ Cond.fieldLink RX12 24 q.1 (q.2.1 3).2.1 (q.2.1 3).2.2.1 ∈ GW := fun q h => by cases h; exact ⟨rfl, rfl, (gt_5 161 rfl rfl)⟩
set_option maxRecDepth 100000 in
theorem ff_RX12_28 : ∀ q, vwCl[12]? = some q → (q.2.1 4).2.2.2 = true ∧ q.1 = RX12 ∧ Cond.fieldLink RX12 28 q.1 (q.2.1 4).2.1 (q.2.1 4).2.2.1 ∈ GW := fun q h => by cases h; exact ⟨rfl, rfl, (gt_5 162 rfl rfl)⟩
set_option maxRecDepth 100000 in
theorem ff_RX12_31 : ∀ q, vwCl[12]? = some q → (q.2.1 5).2.2.2 = true ∧ q.1 = RX12 ∧ Cond.fieldLink RX12 31 q.1 (q.2.1 5).2.1 (q.2.1 5).2.2.1 ∈ GW := fun q h => by cases h; exact ⟨rfl, rfl, (gt_5 163 rfl rfl)⟩
set_option maxRecDepth 100000 in
theorem ff_RX12_34 : ∀ q, vwCl[12]? = some q → (q.2.1 6).2.2.2 = true ∧ q.1 = RX12 ∧ Cond.fieldLink RX12 34 q.1 (q.2.1 6).2.1 (q.2.1 6).2.2.1 ∈ GW := fun q h => by cases h; exact ⟨rfl, rfl, (gt_5 164 rfl rfl)⟩
set_option maxRecDepth 100000 in
theorem ff_RX12_37 : ∀ q, vwCl[12]? = some q → (q.2.1 7).2.2.2 = true ∧ q.1 = RX12 ∧ Cond.fieldLink RX12 37 q.1 (q.2.1 7).2.1 (q.2.1 7).2.2.1 ∈ GW := fun q h => by cases h; exact ⟨rfl, rfl, (gt_5 165 rfl rfl)⟩
set_option maxRecDepth 100000 in
theorem ff_RX12_40 : ∀ q, vwCl[12]? = some q → (q.2.1 10).2.2.2 = true ∧ q.1 = RX12 ∧ Cond.fieldLink RX12 40 q.1 (q.2.1 10).2.1 (q.2.1 10).2.2.1 ∈ GW := fun q h => by cases h; exact ⟨rfl, rfl, (gt_5 168 rfl rfl)⟩
set_option maxRecDepth 100000 in
theorem ff_RX12_46 : ∀ q, vwCl[12]? = some q → (q.2.1 15).2.2.2 = true ∧ q.1 = RX12 ∧ Cond.fieldLink RX12 46 q.1 (q.2.1 15).2.1 (q.2.1 15).2.2.1 ∈ GW := fun q h => by cases h; exact ⟨rfl, rfl, (gt_5 173 rfl rfl)⟩
set_option maxRecDepth 100000 in
theorem ff_RX12_50 : ∀ q, vwCl[12]? = some q → (q.2.1 16).2.2.2 = true ∧ q.1 = RX12 ∧ Cond.fieldLink RX12 50 q.1 (q.2.1 16).2.1 (q.2.1 16).2.2.1 ∈ GW := fun q h => by cases h; exact ⟨rfl, rfl, (gt_5 174 rfl rfl)⟩
set_option maxRecDepth 100000 in
theorem ff_RX12_56 : ∀ q, vwCl[12]? = some q → (q.2.1 20).2.2.2 = true ∧ q.1 = RX12 ∧ Cond.fieldLink RX12 56 q.1 (q.2.1 20).2.1 (q.2.1 20).2.2.1 ∈ GW := fun q h => by cases h; exact ⟨rfl, rfl, (gt_5 178 rfl rfl)⟩
set_option maxRecDepth 100000 in
theorem ff_RX12_59 : ∀ q, vwCl[12]? = some q → (q.2.1 22).2.2.2 = true ∧ q.1 = RX12 ∧ Cond.fieldLink RX12 59 q.1 (q.2.1 22).2.1 (q.2.1 22).2.2.1 ∈ GW := fun q h => by cases h; exact ⟨rfl, rfl, (gt_5 180 rfl rfl)⟩
set_option maxRecDepth 100000 in
theorem ff_RX12_62 : ∀ q, vwCl[12]? = some q → (q.2.1 23).2.2.2 = true ∧ q.1 = RX12 ∧ Cond.fieldLink RX12 62 q.1 (q.2.1 23).2.1 (q.2.1 23).2.2.1 ∈ GW := fun q h => by cases h; exact ⟨rfl, rfl, (gt_5 181 rfl rfl)⟩
set_option maxRecDepth 100000 in
theorem ff_RX12_65 : ∀ q, vwCl[12]? = some q → (q.2.1 24).2.2.2 = true ∧ q.1 = RX12 ∧ Cond.fieldLink RX12 65 q.1 (q.2.1 24).2.1 (q.2.1 24).2.2.1 ∈ GW := fun q h => by cases h; exact ⟨rfl, rfl, (gt_5 182 rfl rfl)⟩
set_option maxRecDepth 100000 in
theorem ff_RX12_72 : ∀ q, vwCl[12]? = some q → (q.2.1 32).2.2.2 = true ∧ q.1 = RX12 ∧ Cond.fieldLink RX12 72 q.1 (q.2.1 32).2.1 (q.2.1 32).2.2.1 ∈ GW := fun q h => by cases h; exact ⟨rfl, rfl, (gt_5 190 rfl rfl)⟩
set_option maxRecDepth 100000 in
theorem ff_RX12_75 : ∀ q, vwCl[12]? = some q → (q.2.1 33).2.2.2 = true ∧ q.1 = RX12 ∧ Cond.fieldLink RX12 75 q.1 (q.2.1 33).2.1 (q.2.1 33).2.2.1 ∈ GW := fun q h => by cases h; exact ⟨rfl, rfl, (gt_5 191 rfl rfl)⟩
set_option maxRecDepth 100000 in
theorem ff_RX12_78 : ∀ q, vwCl[12]? = some q → (q.2.1 34).2.2.2 = true ∧ q.1 = RX12 ∧ Cond.fieldLink RX12 78 q.1 (q.2.1 34).2.1 (q.2.1 34).2.2.1 ∈ GW := fun q h => by cases h; exact ⟨rfl, rfl, (gt_5 192 rfl rfl)⟩
set_option maxRecDepth 100000 in
theorem ff_RX12_81 : ∀ q, vwCl[12]? = some q → (q.2.1 35).2.2.2 = true ∧ q.1 = RX12 ∧ Cond.fieldLink RX12 81 q.1 (q.2.1 35).2.1 (q.2.1 35).2.2.1 ∈ GW := fun q h => by cases h; exact ⟨rfl, rfl, (gt_5 193 rfl rfl)⟩
set_option maxRecDepth 100000 in
theorem ff_RX12_84 : ∀ q, vwCl[12]? = some q → (q.2.1 36).2.2.2 = true ∧ q.1 = RX12 ∧ Cond.fieldLink RX12 84 q.1 (q.2.1 36).2.1 (q.2.1 36).2.2.1 ∈ GW := fun q h => by cases h; exact ⟨rfl, rfl, (gt_5 194 rfl rfl)⟩
set_option maxRecDepth 100000 in
theorem ff_RX12_87 : ∀ q, vwCl[12]? = some q → (q.2.1 37).2.2.2 = true ∧ q.1 = RX12 ∧ Cond.fieldLink RX12 87 q.1 (q.2.1 37).2.1 (q.2.1 37).2.2.1 ∈ GW := fun q h => by cases h; exact ⟨rfl, rfl, (gt_5 195 rfl rfl)⟩
set_option maxRecDepth 100000 in
theorem ff_RX12_90 : ∀ q, vwCl[12]? = some q → (q.2.1 39).2.2.2 = true ∧ q.1 = RX12 ∧ Cond.fieldLink RX12 90 q.1 (q.2.1 39).2.1 (q.2.1 39).2.2.1 ∈ GW := fun q h => by cases h; exact ⟨rfl, rfl, (gt_5 197 rfl rfl)⟩
set_option maxRecDepth 100000 in
theorem ff_RX12_93 : ∀ q, vwCl[12]? = some q → (q.2.1 40).2.2.2 = true ∧ q.1 = RX12 ∧ Cond.fieldLink RX12 93 q.1 (q.2.1 40).2.1 (q.2.1 40).2.2.1 ∈ GW := fun q h => by cases h; exact ⟨rfl, rfl, (gt_5 198 rfl rfl)⟩
set_option maxRecDepth 100000 in
theorem ff_RX12_99 : ∀ q, vwCl[12]? = some q → (q.2.1 46).2.2.2 = true ∧ q.1 = RX12 ∧ Cond.fieldLink RX12 99 q.1 (q.2.1 46).2.1 (q.2.1 46).2.2.1 ∈ GW := fun q h => by cases h; exact ⟨rfl, rfl, (gt_5 204 rfl rfl)⟩
def mz0 : Mm := fun _ _ => 0
def rz0 : Rm := fun _ _ => none
def mz1 : Mm := (up (up (up mz0 1 2 1) 1 3 100) 1 4 (-1))
def rz1 : Rm := (upR (upR (upR (upR (upR (upR rz0 1 7 (some 2)) 1 8 (some 3)) 1 9 (some 4)) 1 10 (some 5)) 1 11 (some 6)) 1 12 (some 7))
def mz2 : Mm := mz1
def rz2 : Rm := (upR (upR (upR (upR (upR (upR rz1 8 1 (some 9)) 8 2 (some 10)) 8 3 (some 11)) 8 4 (some 12)) 8 5 (some 13)) 8 6 (some 14))
set_option maxHeartbeats 8000000 in
set_option maxRecDepth 20000 in
theorem cc_X3_init_8 (l : Launch) (g : Gp) : Ct l g yX3_init cX3_init 1 none 1 6 360 [aR 8] (9, rz1, mz1) (fun v Z => v = none ∧ Z = (15, rz2, mz2)) := by
  refine ct_of (by decide) (Nat.le_of_ble_eq_true rfl) (fun Γ hg hl hr hin hΓ => ?_)
  subst hg; subst hl
  have hin : Γ.2.2.2.2.2.2.2.2.1.name = "<init>" := hin
  refine a_aload_n hΓ 0 dX3_init_0 rfl rfl ?_
  refine a_obj hΓ (by decide) ml_RX3_3 go_inst go_code (Nat.le_of_ble_eq_true rfl) dX3_init_1 ?_
  refine a_aload_n hΓ 0 dX3_init_4 rfl rfl ?_
  refine a_bipush hΓ dX3_init_5 (by decide) ?_
  refine a_newa (N := 9) (t := 0) (n := 60) hΓ rfl (Or.inl ⟨rfl, rfl⟩) ga_int kd_9 (by decide) (fun _ => rfl) ⟨by decide, by decide⟩ dX3_init_7 ?_
  refine c_putR hΓ fl_RX3_9 cl_3 ff_RX3_9 hin kd_8 ⟨by decide, by decide⟩ dX3_init_9 ft_3_1 ?_
  refine a_aload_n hΓ 0 dX3_init_12 rfl rfl ?_
  refine a_bipush hΓ dX3_init_13 (by decide) ?_
  refine a_newa (N := 10) (t := 0) (n := 60) hΓ rfl (Or.inl ⟨rfl, rfl⟩) ga_int kd_10 (by decide) (fun _ => rfl) ⟨by decide, by decide⟩ dX3_init_15 ?_
  refine c_putR hΓ fl_RX3_15 cl_3 ff_RX3_15 hin kd_8 ⟨by decide, by decide⟩ dX3_init_17 ft_3_2 ?_
  refine a_aload_n hΓ 0 dX3_init_20 rfl rfl ?_
  refine a_bipush hΓ dX3_init_21 (by decide) ?_
  refine a_newa (N := 11) (t := 0) (n := 60) hΓ rfl (Or.inl ⟨rfl, rfl⟩) ga_int kd_11 (by decide) (fun _ => rfl) ⟨by decide, by decide⟩ dX3_init_23 ?_
  refine c_putR hΓ fl_RX3_18 cl_3 ff_RX3_18 hin kd_8 ⟨by decide, by decide⟩ dX3_init_25 ft_3_3 ?_
  refine a_aload_n hΓ 0 dX3_init_28 rfl rfl ?_
  refine a_bipush hΓ dX3_init_29 (by decide) ?_
  refine a_newa (N := 12) (t := 0) (n := 60) hΓ rfl (Or.inl ⟨rfl, rfl⟩) ga_int kd_12 (by decide) (fun _ => rfl) ⟨by decide, by decide⟩ dX3_init_31 ?_
  refine c_putR hΓ fl_RX3_21 cl_3 ff_RX3_21 hin kd_8 ⟨by decide, by decide⟩ dX3_init_33 ft_3_4 ?_
  refine a_aload_n hΓ 0 dX3_init_36 rfl rfl ?_
  refine a_bipush hΓ dX3_init_37 (by decide) ?_
  refine a_newa (N := 13) (t := 0) (n := 60) hΓ rfl (Or.inl ⟨rfl, rfl⟩) ga_int kd_13 (by decide) (fun _ => rfl) ⟨by decide, by decide⟩ dX3_init_39 ?_
  refine c_putR hΓ fl_RX3_24 cl_3 ff_RX3_24 hin kd_8 ⟨by decide, by decide⟩ dX3_init_41 ft_3_5 ?_
  refine a_aload_n hΓ 0 dX3_init_44 rfl rfl ?_
  refine a_bipush hΓ dX3_init_45 (by decide) ?_
  refine a_newa (N := 14) (t := 0) (n := 60) hΓ rfl (Or.inl ⟨rfl, rfl⟩) ga_int kd_14 (by decide) (fun _ => rfl) ⟨by decide, by decide⟩ dX3_init_47 ?_
  refine c_putR hΓ fl_RX3_27 cl_3 ff_RX3_27 hin kd_8 ⟨by decide, by decide⟩ dX3_init_49 ft_3_6 ?_
  exact a_vret hΓ hr dX3_init_52 ⟨rfl, rfl⟩
def mz3 : Mm := mz2
def rz3 : Rm := (upR rz2 1 13 (some 8))
def mz4 : Mm := mz3
def rz4 : Rm := (upR (upR (upR (upR (upR (upR (upR (upR rz3 15 1 (some 16)) 15 2 (some 17)) 15 3 (some 18)) 15 4 (some 19)) 15 5 (some 20)) 15 6 (some 21)) 15 7 (some 22)) 15 8 (some 23))
set_option maxHeartbeats 8000000 in
set_option maxRecDepth 20000 in
theorem cc_X4_init_15 (l : Launch) (g : Gp) : Ct l g yX4_init cX4_init 1 none 1 8 192 [aR 15] (16, rz3, mz3) (fun v Z => v = none ∧ Z = (24, rz4, mz4)) := by
  refine ct_of (by decide) (Nat.le_of_ble_eq_true rfl) (fun Γ hg hl hr hin hΓ => ?_)
  subst hg; subst hl
  have hin : Γ.2.2.2.2.2.2.2.2.1.name = "<init>" := hin
  refine a_aload_n hΓ 0 dX4_init_0 rfl rfl ?_
  refine a_obj hΓ (by decide) ml_RX4_3 go_inst go_code (Nat.le_of_ble_eq_true rfl) dX4_init_1 ?_
  refine a_aload_n hΓ 0 dX4_init_4 rfl rfl ?_
  refine a_bipush hΓ dX4_init_5 (by decide) ?_
  refine a_newa (N := 16) (t := 0) (n := 24) hΓ rfl (Or.inl ⟨rfl, rfl⟩) ga_int kd_16 (by decide) (fun _ => rfl) ⟨by decide, by decide⟩ dX4_init_7 ?_
  refine c_putR hΓ fl_RX4_9 cl_4 ff_RX4_9 hin kd_15 ⟨by decide, by decide⟩ dX4_init_9 ft_4_1 ?_
  refine a_aload_n hΓ 0 dX4_init_12 rfl rfl ?_
  refine a_bipush hΓ dX4_init_13 (by decide) ?_
  refine a_newa (N := 17) (t := 0) (n := 24) hΓ rfl (Or.inl ⟨rfl, rfl⟩) ga_int kd_17 (by decide) (fun _ => rfl) ⟨by decide, by decide⟩ dX4_init_15 ?_
  refine c_putR hΓ fl_RX4_15 cl_4 ff_RX4_15 hin kd_15 ⟨by decide, by decide⟩ dX4_init_17 ft_4_2 ?_
  refine a_aload_n hΓ 0 dX4_init_20 rfl rfl ?_
  refine a_bipush hΓ dX4_init_21 (by decide) ?_
  refine a_newa (N := 18) (t := 0) (n := 24) hΓ rfl (Or.inl ⟨rfl, rfl⟩) ga_int kd_18 (by decide) (fun _ => rfl) ⟨by decide, by decide⟩ dX4_init_23 ?_
  refine c_putR hΓ fl_RX4_18 cl_4 ff_RX4_18 hin kd_15 ⟨by decide, by decide⟩ dX4_init_25 ft_4_3 ?_
  refine a_aload_n hΓ 0 dX4_init_28 rfl rfl ?_
  refine a_bipush hΓ dX4_init_29 (by decide) ?_
  refine a_newa (N := 19) (t := 0) (n := 24) hΓ rfl (Or.inl ⟨rfl, rfl⟩) ga_int kd_19 (by decide) (fun _ => rfl) ⟨by decide, by decide⟩ dX4_init_31 ?_
  refine c_putR hΓ fl_RX4_21 cl_4 ff_RX4_21 hin kd_15 ⟨by decide, by decide⟩ dX4_init_33 ft_4_4 ?_
  refine a_aload_n hΓ 0 dX4_init_36 rfl rfl ?_
  refine a_bipush hΓ dX4_init_37 (by decide) ?_
  refine a_newa (N := 20) (t := 0) (n := 24) hΓ rfl (Or.inl ⟨rfl, rfl⟩) ga_int kd_20 (by decide) (fun _ => rfl) ⟨by decide, by decide⟩ dX4_init_39 ?_
  refine c_putR hΓ fl_RX4_24 cl_4 ff_RX4_24 hin kd_15 ⟨by decide, by decide⟩ dX4_init_41 ft_4_5 ?_
  refine a_aload_n hΓ 0 dX4_init_44 rfl rfl ?_
  refine a_bipush hΓ dX4_init_45 (by decide) ?_
  refine a_newa (N := 21) (t := 0) (n := 24) hΓ rfl (Or.inl ⟨rfl, rfl⟩) ga_int kd_21 (by decide) (fun _ => rfl) ⟨by decide, by decide⟩ dX4_init_47 ?_
  refine c_putR hΓ fl_RX4_27 cl_4 ff_RX4_27 hin kd_15 ⟨by decide, by decide⟩ dX4_init_49 ft_4_6 ?_
  refine a_aload_n hΓ 0 dX4_init_52 rfl rfl ?_
  refine a_bipush hΓ dX4_init_53 (by decide) ?_
  refine a_newa (N := 22) (t := 1) (n := 24) hΓ rfl (Or.inr (Or.inl ⟨rfl, rfl⟩)) ga_boolean kd_22 (by decide) (fun _ => rfl) ⟨by decide, by decide⟩ dX4_init_55 ?_
  refine c_putR hΓ fl_RX4_30 cl_4 ff_RX4_30 hin kd_15 ⟨by decide, by decide⟩ dX4_init_57 ft_4_7 ?_
  refine a_aload_n hΓ 0 dX4_init_60 rfl rfl ?_
  refine a_bipush hΓ dX4_init_61 (by decide) ?_
  refine a_newa (N := 23) (t := 1) (n := 24) hΓ rfl (Or.inr (Or.inl ⟨rfl, rfl⟩)) ga_boolean kd_23 (by decide) (fun _ => rfl) ⟨by decide, by decide⟩ dX4_init_63 ?_
  refine c_putR hΓ fl_RX4_34 cl_4 ff_RX4_34 hin kd_15 ⟨by decide, by decide⟩ dX4_init_65 ft_4_8 ?_
  exact a_vret hΓ hr dX4_init_68 ⟨rfl, rfl⟩
def mz5 : Mm := (up (up (up (up (up (up (up (up (up (up (up (up (up (up (up (up (up (up (up (up mz4 3 0 0) 4 0 10) 3 1 0) 4 1 10) 3 2 0) 4 2 10) 3 3 0) 4 3 10) 3 4 0) 4 4 10) 3 5 0) 4 5 10) 3 6 (-10)) 4 6 0) 3 7 (-10)) 4 7 0) 3 8 (-10)) 4 8 0) 3 9 (-10)) 4 9 0)
def rz5 : Rm := (upR rz4 1 14 (some 15))
set_option maxHeartbeats 8000000 in
set_option maxRecDepth 20000 in
theorem cc_X0_init_1 (l : Launch) (g : Gp) : Ct l g yX0_init cX0_init 2 none 2 22 711 [aR 1] (2, rz0, mz0) (fun v Z => v = none ∧ Z = (24, rz5, mz5)) := by
  refine ct_of (by decide) (Nat.le_of_ble_eq_true rfl) (fun Γ hg hl hr hin hΓ => ?_)
  subst hg; subst hl
  have hin : Γ.2.2.2.2.2.2.2.2.1.name = "<init>" := hin
  refine a_aload_n hΓ 0 dX0_init_0 rfl rfl ?_
  refine a_obj hΓ (by decide) ml_RX0_3 go_inst go_code (Nat.le_of_ble_eq_true rfl) dX0_init_1 ?_
  refine a_aload_n hΓ 0 dX0_init_4 rfl rfl ?_
  refine a_iconst hΓ dX0_init_5 ?_
  refine c_putI (j := 2) hΓ fl_RX0_9 cl_0 nf_0_2 kd_1 ⟨by decide, by decide⟩ dX0_init_6 ft_0_2 rfl ?_
  refine a_aload_n hΓ 0 dX0_init_9 rfl rfl ?_
  refine a_bipush hΓ dX0_init_10 (by decide) ?_
  refine c_putI (j := 3) hΓ fl_RX0_15 cl_0 nf_0_3 kd_1 ⟨by decide, by decide⟩ dX0_init_12 ft_0_3 rfl ?_
  refine a_aload_n hΓ 0 dX0_init_15 rfl rfl ?_
  refine a_iconst hΓ dX0_init_16 ?_
  refine c_putI (j := 4) hΓ fl_RX0_18 cl_0 nf_0_4 kd_1 ⟨by decide, by decide⟩ dX0_init_17 ft_0_4 rfl ?_
  refine a_aload_n hΓ 0 dX0_init_20 rfl rfl ?_
  refine a_iconst hΓ dX0_init_21 ?_
  refine a_newa (N := 2) (t := 0) (n := 3) hΓ rfl (Or.inl ⟨rfl, rfl⟩) ga_int kd_2 (by decide) (fun _ => rfl) ⟨by decide, by decide⟩ dX0_init_22 ?_
  refine c_putR hΓ fl_RX0_21 cl_0 ff_RX0_21 hin kd_1 ⟨by decide, by decide⟩ dX0_init_24 ft_0_7 ?_
  refine a_aload_n hΓ 0 dX0_init_27 rfl rfl ?_
  refine a_bipush hΓ dX0_init_28 (by decide) ?_
  refine a_newa (N := 3) (t := 0) (n := 10) hΓ rfl (Or.inl ⟨rfl, rfl⟩) ga_int kd_3 (by decide) (fun _ => rfl) ⟨by decide, by decide⟩ dX0_init_30 ?_
  refine c_putR hΓ fl_RX0_25 cl_0 ff_RX0_25 hin kd_1 ⟨by decide, by decide⟩ dX0_init_32 ft_0_8 ?_
  refine a_aload_n hΓ 0 dX0_init_35 rfl rfl ?_
  refine a_bipush hΓ dX0_init_36 (by decide) ?_
  refine a_newa (N := 4) (t := 0) (n := 10) hΓ rfl (Or.inl ⟨rfl, rfl⟩) ga_int kd_4 (by decide) (fun _ => rfl) ⟨by decide, by decide⟩ dX0_init_38 ?_
  refine c_putR hΓ fl_RX0_28 cl_0 ff_RX0_28 hin kd_1 ⟨by decide, by decide⟩ dX0_init_40 ft_0_9 ?_
  refine a_aload_n hΓ 0 dX0_init_43 rfl rfl ?_
  refine a_bipush hΓ dX0_init_44 (by decide) ?_
  refine a_newa (N := 5) (t := 0) (n := 40) hΓ rfl (Or.inl ⟨rfl, rfl⟩) ga_int kd_5 (by decide) (fun _ => rfl) ⟨by decide, by decide⟩ dX0_init_46 ?_
  refine c_putR hΓ fl_RX0_31 cl_0 ff_RX0_31 hin kd_1 ⟨by decide, by decide⟩ dX0_init_48 ft_0_10 ?_
  refine a_aload_n hΓ 0 dX0_init_51 rfl rfl ?_
  refine a_bipush hΓ dX0_init_52 (by decide) ?_
  refine a_newa (N := 6) (t := 0) (n := 40) hΓ rfl (Or.inl ⟨rfl, rfl⟩) ga_int kd_6 (by decide) (fun _ => rfl) ⟨by decide, by decide⟩ dX0_init_54 ?_
  refine c_putR hΓ fl_RX0_34 cl_0 ff_RX0_34 hin kd_1 ⟨by decide, by decide⟩ dX0_init_56 ft_0_11 ?_
  refine a_aload_n hΓ 0 dX0_init_59 rfl rfl ?_
  refine a_bipush hΓ dX0_init_60 (by decide) ?_
  refine a_newa (N := 7) (t := 0) (n := 40) hΓ rfl (Or.inl ⟨rfl, rfl⟩) ga_int kd_7 (by decide) (fun _ => rfl) ⟨by decide, by decide⟩ dX0_init_62 ?_
  refine c_putR hΓ fl_RX0_37 cl_0 ff_RX0_37 hin kd_1 ⟨by decide, by decide⟩ dX0_init_64 ft_0_12 ?_
  refine a_aload_n hΓ 0 dX0_init_67 rfl rfl ?_
  refine a_new (N := 8) hΓ (show vwCl[3]? = some (RX3, TX3, 7) from rfl) cl_3 kl_RX0_40 ki_3 kn_3 kd_8 (by decide) (fun _ => rfl) (fun _ => rfl) ⟨by decide, by decide⟩ dX0_init_68 ?_
  refine a_dupR hΓ dX0_init_71 ?_
  refine c_Z (Z' := (9, rz1, mz1)) rfl ?_
  refine a_callI (c := 8) (av := []) (st := [aR 8, aR 1]) hΓ (cc_X3_init_8 _ _) my_X3_init ml_RX0_42 rfl ⟨by decide, by decide⟩ rfl (by decide) (by decide) ⟨by decide, by decide⟩ (Nat.le_of_ble_eq_true rfl) rfl dX0_init_72 (fun v Z' hq => ?_)
  obtain ⟨rfl, rfl⟩ := hq
  refine c_k (kc' := 13) (ks' := 510) rfl rfl (15, rz2, mz2) ?_
  refine c_putR hΓ fl_RX0_43 cl_0 ff_RX0_43 hin kd_1 ⟨by decide, by decide⟩ dX0_init_75 ft_0_13 ?_
  refine a_aload_n hΓ 0 dX0_init_78 rfl rfl ?_
  refine a_new (N := 15) hΓ (show vwCl[4]? = some (RX4, TX4, 9) from rfl) cl_4 kl_RX0_47 ki_4 kn_4 kd_15 (by decide) (fun _ => rfl) (fun _ => rfl) ⟨by decide, by decide⟩ dX0_init_79 ?_
  refine a_dupR hΓ dX0_init_82 ?_
  refine c_Z (Z' := (16, rz3, mz3)) rfl ?_
  refine a_callI (c := 15) (av := []) (st := [aR 15, aR 1]) hΓ (cc_X4_init_15 _ _) my_X4_init ml_RX0_49 rfl ⟨by decide, by decide⟩ rfl (by decide) (by decide) ⟨by decide, by decide⟩ (Nat.le_of_ble_eq_true rfl) rfl dX0_init_83 (fun v Z' hq => ?_)
  obtain ⟨rfl, rfl⟩ := hq
  refine c_k (kc' := 22) (ks' := 711) rfl rfl (24, rz4, mz4) ?_
  refine c_putR hΓ fl_RX0_50 cl_0 ff_RX0_50 hin kd_1 ⟨by decide, by decide⟩ dX0_init_86 ft_0_14 ?_
  refine a_iconst hΓ dX0_init_89 ?_
  refine a_istore_n (ls' := [(1, aI 0), (0, aR 1)]) hΓ dX0_init_90 rfl (by decide) rfl ?_
  refine a_iload_n hΓ 0 dX0_init_91 rfl rfl ?_
  refine a_bipush hΓ dX0_init_92 (by decide) ?_
  refine a_icmp_ge (tgt := 139) hΓ (inRl (by decide)) (inRl (by decide)) dX0_init_94 (by decide) (fun _ => ?_) (fun c => absurd (by decide) c)
  refine a_aload_n hΓ 1 dX0_init_97 rfl rfl ?_
  refine c_getR (r := 3) hΓ fl_RX0_25 cl_0 kd_1 ⟨by decide, by decide⟩ dX0_init_98 ft_0_8 rfl ?_
  refine a_iload_n hΓ 0 dX0_init_101 rfl rfl ?_
  refine a_iload_n hΓ 0 dX0_init_102 rfl rfl ?_
  refine a_bipush hΓ dX0_init_103 (by decide) ?_
  refine a_icmp_ge (tgt := 112) hΓ (inRl (by decide)) (inRl (by decide)) dX0_init_105 (by decide) (fun _ => ?_) (fun c => absurd (by decide) c)
  refine a_iconst hΓ dX0_init_108 ?_
  refine a_goto (tgt := 114) hΓ dX0_init_109 (by decide) ?_
  refine a_iast hΓ dX0_init_114 kd_3 ⟨by decide, by decide⟩ ⟨by decide, by decide⟩ ?_
  refine a_aload_n hΓ 1 dX0_init_115 rfl rfl ?_
  refine c_getR (r := 4) hΓ fl_RX0_28 cl_0 kd_1 ⟨by decide, by decide⟩ dX0_init_116 ft_0_9 rfl ?_
  refine a_iload_n hΓ 0 dX0_init_119 rfl rfl ?_
  refine a_iload_n hΓ 0 dX0_init_120 rfl rfl ?_
  refine a_bipush hΓ dX0_init_121 (by decide) ?_
  refine a_icmp_ge (tgt := 131) hΓ (inRl (by decide)) (inRl (by decide)) dX0_init_123 (by decide) (fun _ => ?_) (fun c => absurd (by decide) c)
  refine a_bipush hΓ dX0_init_126 (by decide) ?_
  refine a_goto (tgt := 132) hΓ dX0_init_128 (by decide) ?_
  refine a_iast hΓ dX0_init_132 kd_4 ⟨by decide, by decide⟩ ⟨by decide, by decide⟩ ?_
  refine a_iinc (ls' := [(1, aI 1), (0, aR 1)]) hΓ 0 dX0_init_133 rfl (by decide) rfl ?_
  refine a_goto (tgt := 91) hΓ dX0_init_136 (by decide) ?_
  refine a_iload_n hΓ 0 dX0_init_91 rfl rfl ?_
  refine a_bipush hΓ dX0_init_92 (by decide) ?_
  refine a_icmp_ge (tgt := 139) hΓ (inRl (by decide)) (inRl (by decide)) dX0_init_94 (by decide) (fun _ => ?_) (fun c => absurd (by decide) c)
  refine a_aload_n hΓ 1 dX0_init_97 rfl rfl ?_
  refine c_getR (r := 3) hΓ fl_RX0_25 cl_0 kd_1 ⟨by decide, by decide⟩ dX0_init_98 ft_0_8 rfl ?_
  refine a_iload_n hΓ 0 dX0_init_101 rfl rfl ?_
  refine a_iload_n hΓ 0 dX0_init_102 rfl rfl ?_
  refine a_bipush hΓ dX0_init_103 (by decide) ?_
  refine a_icmp_ge (tgt := 112) hΓ (inRl (by decide)) (inRl (by decide)) dX0_init_105 (by decide) (fun _ => ?_) (fun c => absurd (by decide) c)
  refine a_iconst hΓ dX0_init_108 ?_
  refine a_goto (tgt := 114) hΓ dX0_init_109 (by decide) ?_
  refine a_iast hΓ dX0_init_114 kd_3 ⟨by decide, by decide⟩ ⟨by decide, by decide⟩ ?_
  refine a_aload_n hΓ 1 dX0_init_115 rfl rfl ?_
  refine c_getR (r := 4) hΓ fl_RX0_28 cl_0 kd_1 ⟨by decide, by decide⟩ dX0_init_116 ft_0_9 rfl ?_
  refine a_iload_n hΓ 0 dX0_init_119 rfl rfl ?_
  refine a_iload_n hΓ 0 dX0_init_120 rfl rfl ?_
  refine a_bipush hΓ dX0_init_121 (by decide) ?_
  refine a_icmp_ge (tgt := 131) hΓ (inRl (by decide)) (inRl (by decide)) dX0_init_123 (by decide) (fun _ => ?_) (fun c => absurd (by decide) c)
  refine a_bipush hΓ dX0_init_126 (by decide) ?_
  refine a_goto (tgt := 132) hΓ dX0_init_128 (by decide) ?_
  refine a_iast hΓ dX0_init_132 kd_4 ⟨by decide, by decide⟩ ⟨by decide, by decide⟩ ?_
  refine a_iinc (ls' := [(1, aI 2), (0, aR 1)]) hΓ 0 dX0_init_133 rfl (by decide) rfl ?_
  refine a_goto (tgt := 91) hΓ dX0_init_136 (by decide) ?_
  refine a_iload_n hΓ 0 dX0_init_91 rfl rfl ?_
  refine a_bipush hΓ dX0_init_92 (by decide) ?_
  refine a_icmp_ge (tgt := 139) hΓ (inRl (by decide)) (inRl (by decide)) dX0_init_94 (by decide) (fun _ => ?_) (fun c => absurd (by decide) c)
  refine a_aload_n hΓ 1 dX0_init_97 rfl rfl ?_
  refine c_getR (r := 3) hΓ fl_RX0_25 cl_0 kd_1 ⟨by decide, by decide⟩ dX0_init_98 ft_0_8 rfl ?_
  refine a_iload_n hΓ 0 dX0_init_101 rfl rfl ?_
  refine a_iload_n hΓ 0 dX0_init_102 rfl rfl ?_
  refine a_bipush hΓ dX0_init_103 (by decide) ?_
  refine a_icmp_ge (tgt := 112) hΓ (inRl (by decide)) (inRl (by decide)) dX0_init_105 (by decide) (fun _ => ?_) (fun c => absurd (by decide) c)
  refine a_iconst hΓ dX0_init_108 ?_
  refine a_goto (tgt := 114) hΓ dX0_init_109 (by decide) ?_
  refine a_iast hΓ dX0_init_114 kd_3 ⟨by decide, by decide⟩ ⟨by decide, by decide⟩ ?_
  refine a_aload_n hΓ 1 dX0_init_115 rfl rfl ?_
  refine c_getR (r := 4) hΓ fl_RX0_28 cl_0 kd_1 ⟨by decide, by decide⟩ dX0_init_116 ft_0_9 rfl ?_
  refine a_iload_n hΓ 0 dX0_init_119 rfl rfl ?_
  refine a_iload_n hΓ 0 dX0_init_120 rfl rfl ?_
  refine a_bipush hΓ dX0_init_121 (by decide) ?_
  refine a_icmp_ge (tgt := 131) hΓ (inRl (by decide)) (inRl (by decide)) dX0_init_123 (by decide) (fun _ => ?_) (fun c => absurd (by decide) c)
  refine a_bipush hΓ dX0_init_126 (by decide) ?_
  refine a_goto (tgt := 132) hΓ dX0_init_128 (by decide) ?_
  refine a_iast hΓ dX0_init_132 kd_4 ⟨by decide, by decide⟩ ⟨by decide, by decide⟩ ?_
  refine a_iinc (ls' := [(1, aI 3), (0, aR 1)]) hΓ 0 dX0_init_133 rfl (by decide) rfl ?_
  refine a_goto (tgt := 91) hΓ dX0_init_136 (by decide) ?_
  refine a_iload_n hΓ 0 dX0_init_91 rfl rfl ?_
  refine a_bipush hΓ dX0_init_92 (by decide) ?_
  refine a_icmp_ge (tgt := 139) hΓ (inRl (by decide)) (inRl (by decide)) dX0_init_94 (by decide) (fun _ => ?_) (fun c => absurd (by decide) c)
  refine a_aload_n hΓ 1 dX0_init_97 rfl rfl ?_
  refine c_getR (r := 3) hΓ fl_RX0_25 cl_0 kd_1 ⟨by decide, by decide⟩ dX0_init_98 ft_0_8 rfl ?_
  refine a_iload_n hΓ 0 dX0_init_101 rfl rfl ?_
  refine a_iload_n hΓ 0 dX0_init_102 rfl rfl ?_
  refine a_bipush hΓ dX0_init_103 (by decide) ?_
  refine a_icmp_ge (tgt := 112) hΓ (inRl (by decide)) (inRl (by decide)) dX0_init_105 (by decide) (fun _ => ?_) (fun c => absurd (by decide) c)
  refine a_iconst hΓ dX0_init_108 ?_
  refine a_goto (tgt := 114) hΓ dX0_init_109 (by decide) ?_
  refine a_iast hΓ dX0_init_114 kd_3 ⟨by decide, by decide⟩ ⟨by decide, by decide⟩ ?_
  refine a_aload_n hΓ 1 dX0_init_115 rfl rfl ?_
  refine c_getR (r := 4) hΓ fl_RX0_28 cl_0 kd_1 ⟨by decide, by decide⟩ dX0_init_116 ft_0_9 rfl ?_
  refine a_iload_n hΓ 0 dX0_init_119 rfl rfl ?_
  refine a_iload_n hΓ 0 dX0_init_120 rfl rfl ?_
  refine a_bipush hΓ dX0_init_121 (by decide) ?_
  refine a_icmp_ge (tgt := 131) hΓ (inRl (by decide)) (inRl (by decide)) dX0_init_123 (by decide) (fun _ => ?_) (fun c => absurd (by decide) c)
  refine a_bipush hΓ dX0_init_126 (by decide) ?_
  refine a_goto (tgt := 132) hΓ dX0_init_128 (by decide) ?_
  refine a_iast hΓ dX0_init_132 kd_4 ⟨by decide, by decide⟩ ⟨by decide, by decide⟩ ?_
  refine a_iinc (ls' := [(1, aI 4), (0, aR 1)]) hΓ 0 dX0_init_133 rfl (by decide) rfl ?_
  refine a_goto (tgt := 91) hΓ dX0_init_136 (by decide) ?_
  refine a_iload_n hΓ 0 dX0_init_91 rfl rfl ?_
  refine a_bipush hΓ dX0_init_92 (by decide) ?_
  refine a_icmp_ge (tgt := 139) hΓ (inRl (by decide)) (inRl (by decide)) dX0_init_94 (by decide) (fun _ => ?_) (fun c => absurd (by decide) c)
  refine a_aload_n hΓ 1 dX0_init_97 rfl rfl ?_
  refine c_getR (r := 3) hΓ fl_RX0_25 cl_0 kd_1 ⟨by decide, by decide⟩ dX0_init_98 ft_0_8 rfl ?_
  refine a_iload_n hΓ 0 dX0_init_101 rfl rfl ?_
  refine a_iload_n hΓ 0 dX0_init_102 rfl rfl ?_
  refine a_bipush hΓ dX0_init_103 (by decide) ?_
  refine a_icmp_ge (tgt := 112) hΓ (inRl (by decide)) (inRl (by decide)) dX0_init_105 (by decide) (fun _ => ?_) (fun c => absurd (by decide) c)
  refine a_iconst hΓ dX0_init_108 ?_
  refine a_goto (tgt := 114) hΓ dX0_init_109 (by decide) ?_
  refine a_iast hΓ dX0_init_114 kd_3 ⟨by decide, by decide⟩ ⟨by decide, by decide⟩ ?_
  refine a_aload_n hΓ 1 dX0_init_115 rfl rfl ?_
  refine c_getR (r := 4) hΓ fl_RX0_28 cl_0 kd_1 ⟨by decide, by decide⟩ dX0_init_116 ft_0_9 rfl ?_
  refine a_iload_n hΓ 0 dX0_init_119 rfl rfl ?_
  refine a_iload_n hΓ 0 dX0_init_120 rfl rfl ?_
  refine a_bipush hΓ dX0_init_121 (by decide) ?_
  refine a_icmp_ge (tgt := 131) hΓ (inRl (by decide)) (inRl (by decide)) dX0_init_123 (by decide) (fun _ => ?_) (fun c => absurd (by decide) c)
  refine a_bipush hΓ dX0_init_126 (by decide) ?_
  refine a_goto (tgt := 132) hΓ dX0_init_128 (by decide) ?_
  refine a_iast hΓ dX0_init_132 kd_4 ⟨by decide, by decide⟩ ⟨by decide, by decide⟩ ?_
  refine a_iinc (ls' := [(1, aI 5), (0, aR 1)]) hΓ 0 dX0_init_133 rfl (by decide) rfl ?_
  refine a_goto (tgt := 91) hΓ dX0_init_136 (by decide) ?_
  refine a_iload_n hΓ 0 dX0_init_91 rfl rfl ?_
  refine a_bipush hΓ dX0_init_92 (by decide) ?_
  refine a_icmp_ge (tgt := 139) hΓ (inRl (by decide)) (inRl (by decide)) dX0_init_94 (by decide) (fun _ => ?_) (fun c => absurd (by decide) c)
  refine a_aload_n hΓ 1 dX0_init_97 rfl rfl ?_
  refine c_getR (r := 3) hΓ fl_RX0_25 cl_0 kd_1 ⟨by decide, by decide⟩ dX0_init_98 ft_0_8 rfl ?_
  refine a_iload_n hΓ 0 dX0_init_101 rfl rfl ?_
  refine a_iload_n hΓ 0 dX0_init_102 rfl rfl ?_
  refine a_bipush hΓ dX0_init_103 (by decide) ?_
  refine a_icmp_ge (tgt := 112) hΓ (inRl (by decide)) (inRl (by decide)) dX0_init_105 (by decide) (fun _ => ?_) (fun c => absurd (by decide) c)
  refine a_iconst hΓ dX0_init_108 ?_
  refine a_goto (tgt := 114) hΓ dX0_init_109 (by decide) ?_
  refine a_iast hΓ dX0_init_114 kd_3 ⟨by decide, by decide⟩ ⟨by decide, by decide⟩ ?_
  refine a_aload_n hΓ 1 dX0_init_115 rfl rfl ?_
  refine c_getR (r := 4) hΓ fl_RX0_28 cl_0 kd_1 ⟨by decide, by decide⟩ dX0_init_116 ft_0_9 rfl ?_
  refine a_iload_n hΓ 0 dX0_init_119 rfl rfl ?_
  refine a_iload_n hΓ 0 dX0_init_120 rfl rfl ?_
  refine a_bipush hΓ dX0_init_121 (by decide) ?_
  refine a_icmp_ge (tgt := 131) hΓ (inRl (by decide)) (inRl (by decide)) dX0_init_123 (by decide) (fun _ => ?_) (fun c => absurd (by decide) c)
  refine a_bipush hΓ dX0_init_126 (by decide) ?_
  refine a_goto (tgt := 132) hΓ dX0_init_128 (by decide) ?_
  refine a_iast hΓ dX0_init_132 kd_4 ⟨by decide, by decide⟩ ⟨by decide, by decide⟩ ?_
  refine a_iinc (ls' := [(1, aI 6), (0, aR 1)]) hΓ 0 dX0_init_133 rfl (by decide) rfl ?_
  refine a_goto (tgt := 91) hΓ dX0_init_136 (by decide) ?_
  refine a_iload_n hΓ 0 dX0_init_91 rfl rfl ?_
  refine a_bipush hΓ dX0_init_92 (by decide) ?_
  refine a_icmp_ge (tgt := 139) hΓ (inRl (by decide)) (inRl (by decide)) dX0_init_94 (by decide) (fun _ => ?_) (fun c => absurd (by decide) c)
  refine a_aload_n hΓ 1 dX0_init_97 rfl rfl ?_
  refine c_getR (r := 3) hΓ fl_RX0_25 cl_0 kd_1 ⟨by decide, by decide⟩ dX0_init_98 ft_0_8 rfl ?_
  refine a_iload_n hΓ 0 dX0_init_101 rfl rfl ?_
  refine a_iload_n hΓ 0 dX0_init_102 rfl rfl ?_
  refine a_bipush hΓ dX0_init_103 (by decide) ?_
  refine a_icmp_ge (tgt := 112) hΓ (inRl (by decide)) (inRl (by decide)) dX0_init_105 (by decide) (fun c => absurd c (by decide)) (fun _ => ?_)
  refine a_bipush hΓ dX0_init_112 (by decide) ?_
  refine a_iast hΓ dX0_init_114 kd_3 ⟨by decide, by decide⟩ ⟨by decide, by decide⟩ ?_
  refine a_aload_n hΓ 1 dX0_init_115 rfl rfl ?_
  refine c_getR (r := 4) hΓ fl_RX0_28 cl_0 kd_1 ⟨by decide, by decide⟩ dX0_init_116 ft_0_9 rfl ?_
  refine a_iload_n hΓ 0 dX0_init_119 rfl rfl ?_
  refine a_iload_n hΓ 0 dX0_init_120 rfl rfl ?_
  refine a_bipush hΓ dX0_init_121 (by decide) ?_
  refine a_icmp_ge (tgt := 131) hΓ (inRl (by decide)) (inRl (by decide)) dX0_init_123 (by decide) (fun c => absurd c (by decide)) (fun _ => ?_)
  refine a_iconst hΓ dX0_init_131 ?_
  refine a_iast hΓ dX0_init_132 kd_4 ⟨by decide, by decide⟩ ⟨by decide, by decide⟩ ?_
  refine a_iinc (ls' := [(1, aI 7), (0, aR 1)]) hΓ 0 dX0_init_133 rfl (by decide) rfl ?_
  refine a_goto (tgt := 91) hΓ dX0_init_136 (by decide) ?_
  refine a_iload_n hΓ 0 dX0_init_91 rfl rfl ?_
  refine a_bipush hΓ dX0_init_92 (by decide) ?_
  refine a_icmp_ge (tgt := 139) hΓ (inRl (by decide)) (inRl (by decide)) dX0_init_94 (by decide) (fun _ => ?_) (fun c => absurd (by decide) c)
  refine a_aload_n hΓ 1 dX0_init_97 rfl rfl ?_
  refine c_getR (r := 3) hΓ fl_RX0_25 cl_0 kd_1 ⟨by decide, by decide⟩ dX0_init_98 ft_0_8 rfl ?_
  refine a_iload_n hΓ 0 dX0_init_101 rfl rfl ?_
  refine a_iload_n hΓ 0 dX0_init_102 rfl rfl ?_
  refine a_bipush hΓ dX0_init_103 (by decide) ?_
  refine a_icmp_ge (tgt := 112) hΓ (inRl (by decide)) (inRl (by decide)) dX0_init_105 (by decide) (fun c => absurd c (by decide)) (fun _ => ?_)
  refine a_bipush hΓ dX0_init_112 (by decide) ?_
  refine a_iast hΓ dX0_init_114 kd_3 ⟨by decide, by decide⟩ ⟨by decide, by decide⟩ ?_
  refine a_aload_n hΓ 1 dX0_init_115 rfl rfl ?_
  refine c_getR (r := 4) hΓ fl_RX0_28 cl_0 kd_1 ⟨by decide, by decide⟩ dX0_init_116 ft_0_9 rfl ?_
  refine a_iload_n hΓ 0 dX0_init_119 rfl rfl ?_
  refine a_iload_n hΓ 0 dX0_init_120 rfl rfl ?_
  refine a_bipush hΓ dX0_init_121 (by decide) ?_
  refine a_icmp_ge (tgt := 131) hΓ (inRl (by decide)) (inRl (by decide)) dX0_init_123 (by decide) (fun c => absurd c (by decide)) (fun _ => ?_)
  refine a_iconst hΓ dX0_init_131 ?_
  refine a_iast hΓ dX0_init_132 kd_4 ⟨by decide, by decide⟩ ⟨by decide, by decide⟩ ?_
  refine a_iinc (ls' := [(1, aI 8), (0, aR 1)]) hΓ 0 dX0_init_133 rfl (by decide) rfl ?_
  refine a_goto (tgt := 91) hΓ dX0_init_136 (by decide) ?_
  refine a_iload_n hΓ 0 dX0_init_91 rfl rfl ?_
  refine a_bipush hΓ dX0_init_92 (by decide) ?_
  refine a_icmp_ge (tgt := 139) hΓ (inRl (by decide)) (inRl (by decide)) dX0_init_94 (by decide) (fun _ => ?_) (fun c => absurd (by decide) c)
  refine a_aload_n hΓ 1 dX0_init_97 rfl rfl ?_
  refine c_getR (r := 3) hΓ fl_RX0_25 cl_0 kd_1 ⟨by decide, by decide⟩ dX0_init_98 ft_0_8 rfl ?_
  refine a_iload_n hΓ 0 dX0_init_101 rfl rfl ?_
  refine a_iload_n hΓ 0 dX0_init_102 rfl rfl ?_
  refine a_bipush hΓ dX0_init_103 (by decide) ?_
  refine a_icmp_ge (tgt := 112) hΓ (inRl (by decide)) (inRl (by decide)) dX0_init_105 (by decide) (fun c => absurd c (by decide)) (fun _ => ?_)
  refine a_bipush hΓ dX0_init_112 (by decide) ?_
  refine a_iast hΓ dX0_init_114 kd_3 ⟨by decide, by decide⟩ ⟨by decide, by decide⟩ ?_
  refine a_aload_n hΓ 1 dX0_init_115 rfl rfl ?_
  refine c_getR (r := 4) hΓ fl_RX0_28 cl_0 kd_1 ⟨by decide, by decide⟩ dX0_init_116 ft_0_9 rfl ?_
  refine a_iload_n hΓ 0 dX0_init_119 rfl rfl ?_
  refine a_iload_n hΓ 0 dX0_init_120 rfl rfl ?_
  refine a_bipush hΓ dX0_init_121 (by decide) ?_
  refine a_icmp_ge (tgt := 131) hΓ (inRl (by decide)) (inRl (by decide)) dX0_init_123 (by decide) (fun c => absurd c (by decide)) (fun _ => ?_)
  refine a_iconst hΓ dX0_init_131 ?_
  refine a_iast hΓ dX0_init_132 kd_4 ⟨by decide, by decide⟩ ⟨by decide, by decide⟩ ?_
  refine a_iinc (ls' := [(1, aI 9), (0, aR 1)]) hΓ 0 dX0_init_133 rfl (by decide) rfl ?_
  refine a_goto (tgt := 91) hΓ dX0_init_136 (by decide) ?_
  refine a_iload_n hΓ 0 dX0_init_91 rfl rfl ?_
  refine a_bipush hΓ dX0_init_92 (by decide) ?_
  refine a_icmp_ge (tgt := 139) hΓ (inRl (by decide)) (inRl (by decide)) dX0_init_94 (by decide) (fun _ => ?_) (fun c => absurd (by decide) c)
  refine a_aload_n hΓ 1 dX0_init_97 rfl rfl ?_
  refine c_getR (r := 3) hΓ fl_RX0_25 cl_0 kd_1 ⟨by decide, by decide⟩ dX0_init_98 ft_0_8 rfl ?_
  refine a_iload_n hΓ 0 dX0_init_101 rfl rfl ?_
  refine a_iload_n hΓ 0 dX0_init_102 rfl rfl ?_
  refine a_bipush hΓ dX0_init_103 (by decide) ?_
  refine a_icmp_ge (tgt := 112) hΓ (inRl (by decide)) (inRl (by decide)) dX0_init_105 (by decide) (fun c => absurd c (by decide)) (fun _ => ?_)
  refine a_bipush hΓ dX0_init_112 (by decide) ?_
  refine a_iast hΓ dX0_init_114 kd_3 ⟨by decide, by decide⟩ ⟨by decide, by decide⟩ ?_
  refine a_aload_n hΓ 1 dX0_init_115 rfl rfl ?_
  refine c_getR (r := 4) hΓ fl_RX0_28 cl_0 kd_1 ⟨by decide, by decide⟩ dX0_init_116 ft_0_9 rfl ?_
  refine a_iload_n hΓ 0 dX0_init_119 rfl rfl ?_
  refine a_iload_n hΓ 0 dX0_init_120 rfl rfl ?_
  refine a_bipush hΓ dX0_init_121 (by decide) ?_
  refine a_icmp_ge (tgt := 131) hΓ (inRl (by decide)) (inRl (by decide)) dX0_init_123 (by decide) (fun c => absurd c (by decide)) (fun _ => ?_)
  refine a_iconst hΓ dX0_init_131 ?_
  refine a_iast hΓ dX0_init_132 kd_4 ⟨by decide, by decide⟩ ⟨by decide, by decide⟩ ?_
  refine a_iinc (ls' := [(1, aI 10), (0, aR 1)]) hΓ 0 dX0_init_133 rfl (by decide) rfl ?_
  refine a_goto (tgt := 91) hΓ dX0_init_136 (by decide) ?_
  refine a_iload_n hΓ 0 dX0_init_91 rfl rfl ?_
  refine a_bipush hΓ dX0_init_92 (by decide) ?_
  refine a_icmp_ge (tgt := 139) hΓ (inRl (by decide)) (inRl (by decide)) dX0_init_94 (by decide) (fun c => absurd c (by decide)) (fun _ => ?_)
  exact a_vret hΓ hr dX0_init_139 ⟨rfl, rfl⟩
def mz6 : Mm := mz5
def rz6 : Rm := (upR (upR rz5 0 0 (some 1)) 0 1 (some 24))
def mz7 : Mm := (up (up (up mz6 25 2 1) 25 3 100) 25 4 (-1))
def rz7 : Rm := (upR (upR (upR (upR (upR (upR rz6 25 7 (some 26)) 25 8 (some 27)) 25 9 (some 28)) 25 10 (some 29)) 25 11 (some 30)) 25 12 (some 31))
def mz8 : Mm := mz7
def rz8 : Rm := (upR (upR (upR (upR (upR (upR rz7 32 1 (some 33)) 32 2 (some 34)) 32 3 (some 35)) 32 4 (some 36)) 32 5 (some 37)) 32 6 (some 38))
set_option maxHeartbeats 8000000 in
set_option maxRecDepth 20000 in
theorem cc_X3_init_32 (l : Launch) (g : Gp) : Ct l g yX3_init cX3_init 1 none 1 6 360 [aR 32] (33, rz7, mz7) (fun v Z => v = none ∧ Z = (39, rz8, mz8)) := by
  refine ct_of (by decide) (Nat.le_of_ble_eq_true rfl) (fun Γ hg hl hr hin hΓ => ?_)
  subst hg; subst hl
  have hin : Γ.2.2.2.2.2.2.2.2.1.name = "<init>" := hin
  refine a_aload_n hΓ 0 dX3_init_0 rfl rfl ?_
  refine a_obj hΓ (by decide) ml_RX3_3 go_inst go_code (Nat.le_of_ble_eq_true rfl) dX3_init_1 ?_
  refine a_aload_n hΓ 0 dX3_init_4 rfl rfl ?_
  refine a_bipush hΓ dX3_init_5 (by decide) ?_
  refine a_newa (N := 33) (t := 0) (n := 60) hΓ rfl (Or.inl ⟨rfl, rfl⟩) ga_int kd_33 (by decide) (fun _ => rfl) ⟨by decide, by decide⟩ dX3_init_7 ?_
  refine c_putR hΓ fl_RX3_9 cl_3 ff_RX3_9 hin kd_32 ⟨by decide, by decide⟩ dX3_init_9 ft_3_1 ?_
  refine a_aload_n hΓ 0 dX3_init_12 rfl rfl ?_
  refine a_bipush hΓ dX3_init_13 (by decide) ?_
  refine a_newa (N := 34) (t := 0) (n := 60) hΓ rfl (Or.inl ⟨rfl, rfl⟩) ga_int kd_34 (by decide) (fun _ => rfl) ⟨by decide, by decide⟩ dX3_init_15 ?_
  refine c_putR hΓ fl_RX3_15 cl_3 ff_RX3_15 hin kd_32 ⟨by decide, by decide⟩ dX3_init_17 ft_3_2 ?_
  refine a_aload_n hΓ 0 dX3_init_20 rfl rfl ?_
  refine a_bipush hΓ dX3_init_21 (by decide) ?_
  refine a_newa (N := 35) (t := 0) (n := 60) hΓ rfl (Or.inl ⟨rfl, rfl⟩) ga_int kd_35 (by decide) (fun _ => rfl) ⟨by decide, by decide⟩ dX3_init_23 ?_
  refine c_putR hΓ fl_RX3_18 cl_3 ff_RX3_18 hin kd_32 ⟨by decide, by decide⟩ dX3_init_25 ft_3_3 ?_
  refine a_aload_n hΓ 0 dX3_init_28 rfl rfl ?_
  refine a_bipush hΓ dX3_init_29 (by decide) ?_
  refine a_newa (N := 36) (t := 0) (n := 60) hΓ rfl (Or.inl ⟨rfl, rfl⟩) ga_int kd_36 (by decide) (fun _ => rfl) ⟨by decide, by decide⟩ dX3_init_31 ?_
  refine c_putR hΓ fl_RX3_21 cl_3 ff_RX3_21 hin kd_32 ⟨by decide, by decide⟩ dX3_init_33 ft_3_4 ?_
  refine a_aload_n hΓ 0 dX3_init_36 rfl rfl ?_
  refine a_bipush hΓ dX3_init_37 (by decide) ?_
  refine a_newa (N := 37) (t := 0) (n := 60) hΓ rfl (Or.inl ⟨rfl, rfl⟩) ga_int kd_37 (by decide) (fun _ => rfl) ⟨by decide, by decide⟩ dX3_init_39 ?_
  refine c_putR hΓ fl_RX3_24 cl_3 ff_RX3_24 hin kd_32 ⟨by decide, by decide⟩ dX3_init_41 ft_3_5 ?_
  refine a_aload_n hΓ 0 dX3_init_44 rfl rfl ?_
  refine a_bipush hΓ dX3_init_45 (by decide) ?_
  refine a_newa (N := 38) (t := 0) (n := 60) hΓ rfl (Or.inl ⟨rfl, rfl⟩) ga_int kd_38 (by decide) (fun _ => rfl) ⟨by decide, by decide⟩ dX3_init_47 ?_
  refine c_putR hΓ fl_RX3_27 cl_3 ff_RX3_27 hin kd_32 ⟨by decide, by decide⟩ dX3_init_49 ft_3_6 ?_
  exact a_vret hΓ hr dX3_init_52 ⟨rfl, rfl⟩
def mz9 : Mm := mz8
def rz9 : Rm := (upR rz8 25 13 (some 32))
def mz10 : Mm := mz9
def rz10 : Rm := (upR (upR (upR (upR (upR (upR (upR (upR rz9 39 1 (some 40)) 39 2 (some 41)) 39 3 (some 42)) 39 4 (some 43)) 39 5 (some 44)) 39 6 (some 45)) 39 7 (some 46)) 39 8 (some 47))
set_option maxHeartbeats 8000000 in
set_option maxRecDepth 20000 in
theorem cc_X4_init_39 (l : Launch) (g : Gp) : Ct l g yX4_init cX4_init 1 none 1 8 192 [aR 39] (40, rz9, mz9) (fun v Z => v = none ∧ Z = (48, rz10, mz10)) := by
  refine ct_of (by decide) (Nat.le_of_ble_eq_true rfl) (fun Γ hg hl hr hin hΓ => ?_)
  subst hg; subst hl
  have hin : Γ.2.2.2.2.2.2.2.2.1.name = "<init>" := hin
  refine a_aload_n hΓ 0 dX4_init_0 rfl rfl ?_
  refine a_obj hΓ (by decide) ml_RX4_3 go_inst go_code (Nat.le_of_ble_eq_true rfl) dX4_init_1 ?_
  refine a_aload_n hΓ 0 dX4_init_4 rfl rfl ?_
  refine a_bipush hΓ dX4_init_5 (by decide) ?_
  refine a_newa (N := 40) (t := 0) (n := 24) hΓ rfl (Or.inl ⟨rfl, rfl⟩) ga_int kd_40 (by decide) (fun _ => rfl) ⟨by decide, by decide⟩ dX4_init_7 ?_
  refine c_putR hΓ fl_RX4_9 cl_4 ff_RX4_9 hin kd_39 ⟨by decide, by decide⟩ dX4_init_9 ft_4_1 ?_
  refine a_aload_n hΓ 0 dX4_init_12 rfl rfl ?_
  refine a_bipush hΓ dX4_init_13 (by decide) ?_
  refine a_newa (N := 41) (t := 0) (n := 24) hΓ rfl (Or.inl ⟨rfl, rfl⟩) ga_int kd_41 (by decide) (fun _ => rfl) ⟨by decide, by decide⟩ dX4_init_15 ?_
  refine c_putR hΓ fl_RX4_15 cl_4 ff_RX4_15 hin kd_39 ⟨by decide, by decide⟩ dX4_init_17 ft_4_2 ?_
  refine a_aload_n hΓ 0 dX4_init_20 rfl rfl ?_
  refine a_bipush hΓ dX4_init_21 (by decide) ?_
  refine a_newa (N := 42) (t := 0) (n := 24) hΓ rfl (Or.inl ⟨rfl, rfl⟩) ga_int kd_42 (by decide) (fun _ => rfl) ⟨by decide, by decide⟩ dX4_init_23 ?_
  refine c_putR hΓ fl_RX4_18 cl_4 ff_RX4_18 hin kd_39 ⟨by decide, by decide⟩ dX4_init_25 ft_4_3 ?_
  refine a_aload_n hΓ 0 dX4_init_28 rfl rfl ?_
  refine a_bipush hΓ dX4_init_29 (by decide) ?_
  refine a_newa (N := 43) (t := 0) (n := 24) hΓ rfl (Or.inl ⟨rfl, rfl⟩) ga_int kd_43 (by decide) (fun _ => rfl) ⟨by decide, by decide⟩ dX4_init_31 ?_
  refine c_putR hΓ fl_RX4_21 cl_4 ff_RX4_21 hin kd_39 ⟨by decide, by decide⟩ dX4_init_33 ft_4_4 ?_
  refine a_aload_n hΓ 0 dX4_init_36 rfl rfl ?_
  refine a_bipush hΓ dX4_init_37 (by decide) ?_
  refine a_newa (N := 44) (t := 0) (n := 24) hΓ rfl (Or.inl ⟨rfl, rfl⟩) ga_int kd_44 (by decide) (fun _ => rfl) ⟨by decide, by decide⟩ dX4_init_39 ?_
  refine c_putR hΓ fl_RX4_24 cl_4 ff_RX4_24 hin kd_39 ⟨by decide, by decide⟩ dX4_init_41 ft_4_5 ?_
  refine a_aload_n hΓ 0 dX4_init_44 rfl rfl ?_
  refine a_bipush hΓ dX4_init_45 (by decide) ?_
  refine a_newa (N := 45) (t := 0) (n := 24) hΓ rfl (Or.inl ⟨rfl, rfl⟩) ga_int kd_45 (by decide) (fun _ => rfl) ⟨by decide, by decide⟩ dX4_init_47 ?_
  refine c_putR hΓ fl_RX4_27 cl_4 ff_RX4_27 hin kd_39 ⟨by decide, by decide⟩ dX4_init_49 ft_4_6 ?_
  refine a_aload_n hΓ 0 dX4_init_52 rfl rfl ?_
  refine a_bipush hΓ dX4_init_53 (by decide) ?_
  refine a_newa (N := 46) (t := 1) (n := 24) hΓ rfl (Or.inr (Or.inl ⟨rfl, rfl⟩)) ga_boolean kd_46 (by decide) (fun _ => rfl) ⟨by decide, by decide⟩ dX4_init_55 ?_
  refine c_putR hΓ fl_RX4_30 cl_4 ff_RX4_30 hin kd_39 ⟨by decide, by decide⟩ dX4_init_57 ft_4_7 ?_
  refine a_aload_n hΓ 0 dX4_init_60 rfl rfl ?_
  refine a_bipush hΓ dX4_init_61 (by decide) ?_
  refine a_newa (N := 47) (t := 1) (n := 24) hΓ rfl (Or.inr (Or.inl ⟨rfl, rfl⟩)) ga_boolean kd_47 (by decide) (fun _ => rfl) ⟨by decide, by decide⟩ dX4_init_63 ?_
  refine c_putR hΓ fl_RX4_34 cl_4 ff_RX4_34 hin kd_39 ⟨by decide, by decide⟩ dX4_init_65 ft_4_8 ?_
  exact a_vret hΓ hr dX4_init_68 ⟨rfl, rfl⟩
def mz11 : Mm := (up (up (up (up (up (up (up (up (up (up (up (up (up (up (up (up (up (up (up (up mz10 27 0 0) 28 0 10) 27 1 0) 28 1 10) 27 2 0) 28 2 10) 27 3 0) 28 3 10) 27 4 0) 28 4 10) 27 5 0) 28 5 10) 27 6 (-10)) 28 6 0) 27 7 (-10)) 28 7 0) 27 8 (-10)) 28 8 0) 27 9 (-10)) 28 9 0)
def rz11 : Rm := (upR rz10 25 14 (some 39))
set_option maxHeartbeats 8000000 in
set_option maxRecDepth 20000 in
theorem cc_X0_init_25 (l : Launch) (g : Gp) : Ct l g yX0_init cX0_init 2 none 2 22 711 [aR 25] (26, rz6, mz6) (fun v Z => v = none ∧ Z = (48, rz11, mz11)) := by
  refine ct_of (by decide) (Nat.le_of_ble_eq_true rfl) (fun Γ hg hl hr hin hΓ => ?_)
  subst hg; subst hl
  have hin : Γ.2.2.2.2.2.2.2.2.1.name = "<init>" := hin
  refine a_aload_n hΓ 0 dX0_init_0 rfl rfl ?_
  refine a_obj hΓ (by decide) ml_RX0_3 go_inst go_code (Nat.le_of_ble_eq_true rfl) dX0_init_1 ?_
  refine a_aload_n hΓ 0 dX0_init_4 rfl rfl ?_
  refine a_iconst hΓ dX0_init_5 ?_
  refine c_putI (j := 2) hΓ fl_RX0_9 cl_0 nf_0_2 kd_25 ⟨by decide, by decide⟩ dX0_init_6 ft_0_2 rfl ?_
  refine a_aload_n hΓ 0 dX0_init_9 rfl rfl ?_
  refine a_bipush hΓ dX0_init_10 (by decide) ?_
  refine c_putI (j := 3) hΓ fl_RX0_15 cl_0 nf_0_3 kd_25 ⟨by decide, by decide⟩ dX0_init_12 ft_0_3 rfl ?_
  refine a_aload_n hΓ 0 dX0_init_15 rfl rfl ?_
  refine a_iconst hΓ dX0_init_16 ?_
  refine c_putI (j := 4) hΓ fl_RX0_18 cl_0 nf_0_4 kd_25 ⟨by decide, by decide⟩ dX0_init_17 ft_0_4 rfl ?_
  refine a_aload_n hΓ 0 dX0_init_20 rfl rfl ?_
  refine a_iconst hΓ dX0_init_21 ?_
  refine a_newa (N := 26) (t := 0) (n := 3) hΓ rfl (Or.inl ⟨rfl, rfl⟩) ga_int kd_26 (by decide) (fun _ => rfl) ⟨by decide, by decide⟩ dX0_init_22 ?_
  refine c_putR hΓ fl_RX0_21 cl_0 ff_RX0_21 hin kd_25 ⟨by decide, by decide⟩ dX0_init_24 ft_0_7 ?_
  refine a_aload_n hΓ 0 dX0_init_27 rfl rfl ?_
  refine a_bipush hΓ dX0_init_28 (by decide) ?_
  refine a_newa (N := 27) (t := 0) (n := 10) hΓ rfl (Or.inl ⟨rfl, rfl⟩) ga_int kd_27 (by decide) (fun _ => rfl) ⟨by decide, by decide⟩ dX0_init_30 ?_
  refine c_putR hΓ fl_RX0_25 cl_0 ff_RX0_25 hin kd_25 ⟨by decide, by decide⟩ dX0_init_32 ft_0_8 ?_
  refine a_aload_n hΓ 0 dX0_init_35 rfl rfl ?_
  refine a_bipush hΓ dX0_init_36 (by decide) ?_
  refine a_newa (N := 28) (t := 0) (n := 10) hΓ rfl (Or.inl ⟨rfl, rfl⟩) ga_int kd_28 (by decide) (fun _ => rfl) ⟨by decide, by decide⟩ dX0_init_38 ?_
  refine c_putR hΓ fl_RX0_28 cl_0 ff_RX0_28 hin kd_25 ⟨by decide, by decide⟩ dX0_init_40 ft_0_9 ?_
  refine a_aload_n hΓ 0 dX0_init_43 rfl rfl ?_
  refine a_bipush hΓ dX0_init_44 (by decide) ?_
  refine a_newa (N := 29) (t := 0) (n := 40) hΓ rfl (Or.inl ⟨rfl, rfl⟩) ga_int kd_29 (by decide) (fun _ => rfl) ⟨by decide, by decide⟩ dX0_init_46 ?_
  refine c_putR hΓ fl_RX0_31 cl_0 ff_RX0_31 hin kd_25 ⟨by decide, by decide⟩ dX0_init_48 ft_0_10 ?_
  refine a_aload_n hΓ 0 dX0_init_51 rfl rfl ?_
  refine a_bipush hΓ dX0_init_52 (by decide) ?_
  refine a_newa (N := 30) (t := 0) (n := 40) hΓ rfl (Or.inl ⟨rfl, rfl⟩) ga_int kd_30 (by decide) (fun _ => rfl) ⟨by decide, by decide⟩ dX0_init_54 ?_
  refine c_putR hΓ fl_RX0_34 cl_0 ff_RX0_34 hin kd_25 ⟨by decide, by decide⟩ dX0_init_56 ft_0_11 ?_
  refine a_aload_n hΓ 0 dX0_init_59 rfl rfl ?_
  refine a_bipush hΓ dX0_init_60 (by decide) ?_
  refine a_newa (N := 31) (t := 0) (n := 40) hΓ rfl (Or.inl ⟨rfl, rfl⟩) ga_int kd_31 (by decide) (fun _ => rfl) ⟨by decide, by decide⟩ dX0_init_62 ?_
  refine c_putR hΓ fl_RX0_37 cl_0 ff_RX0_37 hin kd_25 ⟨by decide, by decide⟩ dX0_init_64 ft_0_12 ?_
  refine a_aload_n hΓ 0 dX0_init_67 rfl rfl ?_
  refine a_new (N := 32) hΓ (show vwCl[3]? = some (RX3, TX3, 7) from rfl) cl_3 kl_RX0_40 ki_3 kn_3 kd_32 (by decide) (fun _ => rfl) (fun _ => rfl) ⟨by decide, by decide⟩ dX0_init_68 ?_
  refine a_dupR hΓ dX0_init_71 ?_
  refine c_Z (Z' := (33, rz7, mz7)) rfl ?_
  refine a_callI (c := 32) (av := []) (st := [aR 32, aR 25]) hΓ (cc_X3_init_32 _ _) my_X3_init ml_RX0_42 rfl ⟨by decide, by decide⟩ rfl (by decide) (by decide) ⟨by decide, by decide⟩ (Nat.le_of_ble_eq_true rfl) rfl dX0_init_72 (fun v Z' hq => ?_)
  obtain ⟨rfl, rfl⟩ := hq
  refine c_k (kc' := 13) (ks' := 510) rfl rfl (39, rz8, mz8) ?_
  refine c_putR hΓ fl_RX0_43 cl_0 ff_RX0_43 hin kd_25 ⟨by decide, by decide⟩ dX0_init_75 ft_0_13 ?_
  refine a_aload_n hΓ 0 dX0_init_78 rfl rfl ?_
  refine a_new (N := 39) hΓ (show vwCl[4]? = some (RX4, TX4, 9) from rfl) cl_4 kl_RX0_47 ki_4 kn_4 kd_39 (by decide) (fun _ => rfl) (fun _ => rfl) ⟨by decide, by decide⟩ dX0_init_79 ?_
  refine a_dupR hΓ dX0_init_82 ?_
  refine c_Z (Z' := (40, rz9, mz9)) rfl ?_
  refine a_callI (c := 39) (av := []) (st := [aR 39, aR 25]) hΓ (cc_X4_init_39 _ _) my_X4_init ml_RX0_49 rfl ⟨by decide, by decide⟩ rfl (by decide) (by decide) ⟨by decide, by decide⟩ (Nat.le_of_ble_eq_true rfl) rfl dX0_init_83 (fun v Z' hq => ?_)
  obtain ⟨rfl, rfl⟩ := hq
  refine c_k (kc' := 22) (ks' := 711) rfl rfl (48, rz10, mz10) ?_
  refine c_putR hΓ fl_RX0_50 cl_0 ff_RX0_50 hin kd_25 ⟨by decide, by decide⟩ dX0_init_86 ft_0_14 ?_
  refine a_iconst hΓ dX0_init_89 ?_
  refine a_istore_n (ls' := [(1, aI 0), (0, aR 25)]) hΓ dX0_init_90 rfl (by decide) rfl ?_
  refine a_iload_n hΓ 0 dX0_init_91 rfl rfl ?_
  refine a_bipush hΓ dX0_init_92 (by decide) ?_
  refine a_icmp_ge (tgt := 139) hΓ (inRl (by decide)) (inRl (by decide)) dX0_init_94 (by decide) (fun _ => ?_) (fun c => absurd (by decide) c)
  refine a_aload_n hΓ 1 dX0_init_97 rfl rfl ?_
  refine c_getR (r := 27) hΓ fl_RX0_25 cl_0 kd_25 ⟨by decide, by decide⟩ dX0_init_98 ft_0_8 rfl ?_
  refine a_iload_n hΓ 0 dX0_init_101 rfl rfl ?_
  refine a_iload_n hΓ 0 dX0_init_102 rfl rfl ?_
  refine a_bipush hΓ dX0_init_103 (by decide) ?_
  refine a_icmp_ge (tgt := 112) hΓ (inRl (by decide)) (inRl (by decide)) dX0_init_105 (by decide) (fun _ => ?_) (fun c => absurd (by decide) c)
  refine a_iconst hΓ dX0_init_108 ?_
  refine a_goto (tgt := 114) hΓ dX0_init_109 (by decide) ?_
  refine a_iast hΓ dX0_init_114 kd_27 ⟨by decide, by decide⟩ ⟨by decide, by decide⟩ ?_
  refine a_aload_n hΓ 1 dX0_init_115 rfl rfl ?_
  refine c_getR (r := 28) hΓ fl_RX0_28 cl_0 kd_25 ⟨by decide, by decide⟩ dX0_init_116 ft_0_9 rfl ?_
  refine a_iload_n hΓ 0 dX0_init_119 rfl rfl ?_
  refine a_iload_n hΓ 0 dX0_init_120 rfl rfl ?_
  refine a_bipush hΓ dX0_init_121 (by decide) ?_
  refine a_icmp_ge (tgt := 131) hΓ (inRl (by decide)) (inRl (by decide)) dX0_init_123 (by decide) (fun _ => ?_) (fun c => absurd (by decide) c)
  refine a_bipush hΓ dX0_init_126 (by decide) ?_
  refine a_goto (tgt := 132) hΓ dX0_init_128 (by decide) ?_
  refine a_iast hΓ dX0_init_132 kd_28 ⟨by decide, by decide⟩ ⟨by decide, by decide⟩ ?_
  refine a_iinc (ls' := [(1, aI 1), (0, aR 25)]) hΓ 0 dX0_init_133 rfl (by decide) rfl ?_
  refine a_goto (tgt := 91) hΓ dX0_init_136 (by decide) ?_
  refine a_iload_n hΓ 0 dX0_init_91 rfl rfl ?_
  refine a_bipush hΓ dX0_init_92 (by decide) ?_
  refine a_icmp_ge (tgt := 139) hΓ (inRl (by decide)) (inRl (by decide)) dX0_init_94 (by decide) (fun _ => ?_) (fun c => absurd (by decide) c)
  refine a_aload_n hΓ 1 dX0_init_97 rfl rfl ?_
  refine c_getR (r := 27) hΓ fl_RX0_25 cl_0 kd_25 ⟨by decide, by decide⟩ dX0_init_98 ft_0_8 rfl ?_
  refine a_iload_n hΓ 0 dX0_init_101 rfl rfl ?_
  refine a_iload_n hΓ 0 dX0_init_102 rfl rfl ?_
  refine a_bipush hΓ dX0_init_103 (by decide) ?_
  refine a_icmp_ge (tgt := 112) hΓ (inRl (by decide)) (inRl (by decide)) dX0_init_105 (by decide) (fun _ => ?_) (fun c => absurd (by decide) c)
  refine a_iconst hΓ dX0_init_108 ?_
  refine a_goto (tgt := 114) hΓ dX0_init_109 (by decide) ?_
  refine a_iast hΓ dX0_init_114 kd_27 ⟨by decide, by decide⟩ ⟨by decide, by decide⟩ ?_
  refine a_aload_n hΓ 1 dX0_init_115 rfl rfl ?_
  refine c_getR (r := 28) hΓ fl_RX0_28 cl_0 kd_25 ⟨by decide, by decide⟩ dX0_init_116 ft_0_9 rfl ?_
  refine a_iload_n hΓ 0 dX0_init_119 rfl rfl ?_
  refine a_iload_n hΓ 0 dX0_init_120 rfl rfl ?_
  refine a_bipush hΓ dX0_init_121 (by decide) ?_
  refine a_icmp_ge (tgt := 131) hΓ (inRl (by decide)) (inRl (by decide)) dX0_init_123 (by decide) (fun _ => ?_) (fun c => absurd (by decide) c)
  refine a_bipush hΓ dX0_init_126 (by decide) ?_
  refine a_goto (tgt := 132) hΓ dX0_init_128 (by decide) ?_
  refine a_iast hΓ dX0_init_132 kd_28 ⟨by decide, by decide⟩ ⟨by decide, by decide⟩ ?_
  refine a_iinc (ls' := [(1, aI 2), (0, aR 25)]) hΓ 0 dX0_init_133 rfl (by decide) rfl ?_
  refine a_goto (tgt := 91) hΓ dX0_init_136 (by decide) ?_
  refine a_iload_n hΓ 0 dX0_init_91 rfl rfl ?_
  refine a_bipush hΓ dX0_init_92 (by decide) ?_
  refine a_icmp_ge (tgt := 139) hΓ (inRl (by decide)) (inRl (by decide)) dX0_init_94 (by decide) (fun _ => ?_) (fun c => absurd (by decide) c)
  refine a_aload_n hΓ 1 dX0_init_97 rfl rfl ?_
  refine c_getR (r := 27) hΓ fl_RX0_25 cl_0 kd_25 ⟨by decide, by decide⟩ dX0_init_98 ft_0_8 rfl ?_
  refine a_iload_n hΓ 0 dX0_init_101 rfl rfl ?_
  refine a_iload_n hΓ 0 dX0_init_102 rfl rfl ?_
  refine a_bipush hΓ dX0_init_103 (by decide) ?_
  refine a_icmp_ge (tgt := 112) hΓ (inRl (by decide)) (inRl (by decide)) dX0_init_105 (by decide) (fun _ => ?_) (fun c => absurd (by decide) c)
  refine a_iconst hΓ dX0_init_108 ?_
  refine a_goto (tgt := 114) hΓ dX0_init_109 (by decide) ?_
  refine a_iast hΓ dX0_init_114 kd_27 ⟨by decide, by decide⟩ ⟨by decide, by decide⟩ ?_
  refine a_aload_n hΓ 1 dX0_init_115 rfl rfl ?_
  refine c_getR (r := 28) hΓ fl_RX0_28 cl_0 kd_25 ⟨by decide, by decide⟩ dX0_init_116 ft_0_9 rfl ?_
  refine a_iload_n hΓ 0 dX0_init_119 rfl rfl ?_
  refine a_iload_n hΓ 0 dX0_init_120 rfl rfl ?_
  refine a_bipush hΓ dX0_init_121 (by decide) ?_
  refine a_icmp_ge (tgt := 131) hΓ (inRl (by decide)) (inRl (by decide)) dX0_init_123 (by decide) (fun _ => ?_) (fun c => absurd (by decide) c)
  refine a_bipush hΓ dX0_init_126 (by decide) ?_
  refine a_goto (tgt := 132) hΓ dX0_init_128 (by decide) ?_
  refine a_iast hΓ dX0_init_132 kd_28 ⟨by decide, by decide⟩ ⟨by decide, by decide⟩ ?_
  refine a_iinc (ls' := [(1, aI 3), (0, aR 25)]) hΓ 0 dX0_init_133 rfl (by decide) rfl ?_
  refine a_goto (tgt := 91) hΓ dX0_init_136 (by decide) ?_
  refine a_iload_n hΓ 0 dX0_init_91 rfl rfl ?_
  refine a_bipush hΓ dX0_init_92 (by decide) ?_
  refine a_icmp_ge (tgt := 139) hΓ (inRl (by decide)) (inRl (by decide)) dX0_init_94 (by decide) (fun _ => ?_) (fun c => absurd (by decide) c)
  refine a_aload_n hΓ 1 dX0_init_97 rfl rfl ?_
  refine c_getR (r := 27) hΓ fl_RX0_25 cl_0 kd_25 ⟨by decide, by decide⟩ dX0_init_98 ft_0_8 rfl ?_
  refine a_iload_n hΓ 0 dX0_init_101 rfl rfl ?_
  refine a_iload_n hΓ 0 dX0_init_102 rfl rfl ?_
  refine a_bipush hΓ dX0_init_103 (by decide) ?_
  refine a_icmp_ge (tgt := 112) hΓ (inRl (by decide)) (inRl (by decide)) dX0_init_105 (by decide) (fun _ => ?_) (fun c => absurd (by decide) c)
  refine a_iconst hΓ dX0_init_108 ?_
  refine a_goto (tgt := 114) hΓ dX0_init_109 (by decide) ?_
  refine a_iast hΓ dX0_init_114 kd_27 ⟨by decide, by decide⟩ ⟨by decide, by decide⟩ ?_
  refine a_aload_n hΓ 1 dX0_init_115 rfl rfl ?_
  refine c_getR (r := 28) hΓ fl_RX0_28 cl_0 kd_25 ⟨by decide, by decide⟩ dX0_init_116 ft_0_9 rfl ?_
  refine a_iload_n hΓ 0 dX0_init_119 rfl rfl ?_
  refine a_iload_n hΓ 0 dX0_init_120 rfl rfl ?_
  refine a_bipush hΓ dX0_init_121 (by decide) ?_
  refine a_icmp_ge (tgt := 131) hΓ (inRl (by decide)) (inRl (by decide)) dX0_init_123 (by decide) (fun _ => ?_) (fun c => absurd (by decide) c)
  refine a_bipush hΓ dX0_init_126 (by decide) ?_
  refine a_goto (tgt := 132) hΓ dX0_init_128 (by decide) ?_
  refine a_iast hΓ dX0_init_132 kd_28 ⟨by decide, by decide⟩ ⟨by decide, by decide⟩ ?_
  refine a_iinc (ls' := [(1, aI 4), (0, aR 25)]) hΓ 0 dX0_init_133 rfl (by decide) rfl ?_
  refine a_goto (tgt := 91) hΓ dX0_init_136 (by decide) ?_
  refine a_iload_n hΓ 0 dX0_init_91 rfl rfl ?_
  refine a_bipush hΓ dX0_init_92 (by decide) ?_
  refine a_icmp_ge (tgt := 139) hΓ (inRl (by decide)) (inRl (by decide)) dX0_init_94 (by decide) (fun _ => ?_) (fun c => absurd (by decide) c)
  refine a_aload_n hΓ 1 dX0_init_97 rfl rfl ?_
  refine c_getR (r := 27) hΓ fl_RX0_25 cl_0 kd_25 ⟨by decide, by decide⟩ dX0_init_98 ft_0_8 rfl ?_
  refine a_iload_n hΓ 0 dX0_init_101 rfl rfl ?_
  refine a_iload_n hΓ 0 dX0_init_102 rfl rfl ?_
  refine a_bipush hΓ dX0_init_103 (by decide) ?_
  refine a_icmp_ge (tgt := 112) hΓ (inRl (by decide)) (inRl (by decide)) dX0_init_105 (by decide) (fun _ => ?_) (fun c => absurd (by decide) c)
  refine a_iconst hΓ dX0_init_108 ?_
  refine a_goto (tgt := 114) hΓ dX0_init_109 (by decide) ?_
  refine a_iast hΓ dX0_init_114 kd_27 ⟨by decide, by decide⟩ ⟨by decide, by decide⟩ ?_
  refine a_aload_n hΓ 1 dX0_init_115 rfl rfl ?_
  refine c_getR (r := 28) hΓ fl_RX0_28 cl_0 kd_25 ⟨by decide, by decide⟩ dX0_init_116 ft_0_9 rfl ?_
  refine a_iload_n hΓ 0 dX0_init_119 rfl rfl ?_
  refine a_iload_n hΓ 0 dX0_init_120 rfl rfl ?_
  refine a_bipush hΓ dX0_init_121 (by decide) ?_
  refine a_icmp_ge (tgt := 131) hΓ (inRl (by decide)) (inRl (by decide)) dX0_init_123 (by decide) (fun _ => ?_) (fun c => absurd (by decide) c)
  refine a_bipush hΓ dX0_init_126 (by decide) ?_
  refine a_goto (tgt := 132) hΓ dX0_init_128 (by decide) ?_
  refine a_iast hΓ dX0_init_132 kd_28 ⟨by decide, by decide⟩ ⟨by decide, by decide⟩ ?_
  refine a_iinc (ls' := [(1, aI 5), (0, aR 25)]) hΓ 0 dX0_init_133 rfl (by decide) rfl ?_
  refine a_goto (tgt := 91) hΓ dX0_init_136 (by decide) ?_
  refine a_iload_n hΓ 0 dX0_init_91 rfl rfl ?_
  refine a_bipush hΓ dX0_init_92 (by decide) ?_
  refine a_icmp_ge (tgt := 139) hΓ (inRl (by decide)) (inRl (by decide)) dX0_init_94 (by decide) (fun _ => ?_) (fun c => absurd (by decide) c)
  refine a_aload_n hΓ 1 dX0_init_97 rfl rfl ?_
  refine c_getR (r := 27) hΓ fl_RX0_25 cl_0 kd_25 ⟨by decide, by decide⟩ dX0_init_98 ft_0_8 rfl ?_
  refine a_iload_n hΓ 0 dX0_init_101 rfl rfl ?_
  refine a_iload_n hΓ 0 dX0_init_102 rfl rfl ?_
  refine a_bipush hΓ dX0_init_103 (by decide) ?_
  refine a_icmp_ge (tgt := 112) hΓ (inRl (by decide)) (inRl (by decide)) dX0_init_105 (by decide) (fun _ => ?_) (fun c => absurd (by decide) c)
  refine a_iconst hΓ dX0_init_108 ?_
  refine a_goto (tgt := 114) hΓ dX0_init_109 (by decide) ?_
  refine a_iast hΓ dX0_init_114 kd_27 ⟨by decide, by decide⟩ ⟨by decide, by decide⟩ ?_
  refine a_aload_n hΓ 1 dX0_init_115 rfl rfl ?_
  refine c_getR (r := 28) hΓ fl_RX0_28 cl_0 kd_25 ⟨by decide, by decide⟩ dX0_init_116 ft_0_9 rfl ?_
  refine a_iload_n hΓ 0 dX0_init_119 rfl rfl ?_
  refine a_iload_n hΓ 0 dX0_init_120 rfl rfl ?_
  refine a_bipush hΓ dX0_init_121 (by decide) ?_
  refine a_icmp_ge (tgt := 131) hΓ (inRl (by decide)) (inRl (by decide)) dX0_init_123 (by decide) (fun _ => ?_) (fun c => absurd (by decide) c)
  refine a_bipush hΓ dX0_init_126 (by decide) ?_
  refine a_goto (tgt := 132) hΓ dX0_init_128 (by decide) ?_
  refine a_iast hΓ dX0_init_132 kd_28 ⟨by decide, by decide⟩ ⟨by decide, by decide⟩ ?_
  refine a_iinc (ls' := [(1, aI 6), (0, aR 25)]) hΓ 0 dX0_init_133 rfl (by decide) rfl ?_
  refine a_goto (tgt := 91) hΓ dX0_init_136 (by decide) ?_
  refine a_iload_n hΓ 0 dX0_init_91 rfl rfl ?_
  refine a_bipush hΓ dX0_init_92 (by decide) ?_
  refine a_icmp_ge (tgt := 139) hΓ (inRl (by decide)) (inRl (by decide)) dX0_init_94 (by decide) (fun _ => ?_) (fun c => absurd (by decide) c)
  refine a_aload_n hΓ 1 dX0_init_97 rfl rfl ?_
  refine c_getR (r := 27) hΓ fl_RX0_25 cl_0 kd_25 ⟨by decide, by decide⟩ dX0_init_98 ft_0_8 rfl ?_
  refine a_iload_n hΓ 0 dX0_init_101 rfl rfl ?_
  refine a_iload_n hΓ 0 dX0_init_102 rfl rfl ?_
  refine a_bipush hΓ dX0_init_103 (by decide) ?_
  refine a_icmp_ge (tgt := 112) hΓ (inRl (by decide)) (inRl (by decide)) dX0_init_105 (by decide) (fun c => absurd c (by decide)) (fun _ => ?_)
  refine a_bipush hΓ dX0_init_112 (by decide) ?_
  refine a_iast hΓ dX0_init_114 kd_27 ⟨by decide, by decide⟩ ⟨by decide, by decide⟩ ?_
  refine a_aload_n hΓ 1 dX0_init_115 rfl rfl ?_
  refine c_getR (r := 28) hΓ fl_RX0_28 cl_0 kd_25 ⟨by decide, by decide⟩ dX0_init_116 ft_0_9 rfl ?_
  refine a_iload_n hΓ 0 dX0_init_119 rfl rfl ?_
  refine a_iload_n hΓ 0 dX0_init_120 rfl rfl ?_
  refine a_bipush hΓ dX0_init_121 (by decide) ?_
  refine a_icmp_ge (tgt := 131) hΓ (inRl (by decide)) (inRl (by decide)) dX0_init_123 (by decide) (fun c => absurd c (by decide)) (fun _ => ?_)
  refine a_iconst hΓ dX0_init_131 ?_
  refine a_iast hΓ dX0_init_132 kd_28 ⟨by decide, by decide⟩ ⟨by decide, by decide⟩ ?_
  refine a_iinc (ls' := [(1, aI 7), (0, aR 25)]) hΓ 0 dX0_init_133 rfl (by decide) rfl ?_
  refine a_goto (tgt := 91) hΓ dX0_init_136 (by decide) ?_
  refine a_iload_n hΓ 0 dX0_init_91 rfl rfl ?_
  refine a_bipush hΓ dX0_init_92 (by decide) ?_
  refine a_icmp_ge (tgt := 139) hΓ (inRl (by decide)) (inRl (by decide)) dX0_init_94 (by decide) (fun _ => ?_) (fun c => absurd (by decide) c)
  refine a_aload_n hΓ 1 dX0_init_97 rfl rfl ?_
  refine c_getR (r := 27) hΓ fl_RX0_25 cl_0 kd_25 ⟨by decide, by decide⟩ dX0_init_98 ft_0_8 rfl ?_
  refine a_iload_n hΓ 0 dX0_init_101 rfl rfl ?_
  refine a_iload_n hΓ 0 dX0_init_102 rfl rfl ?_
  refine a_bipush hΓ dX0_init_103 (by decide) ?_
  refine a_icmp_ge (tgt := 112) hΓ (inRl (by decide)) (inRl (by decide)) dX0_init_105 (by decide) (fun c => absurd c (by decide)) (fun _ => ?_)
  refine a_bipush hΓ dX0_init_112 (by decide) ?_
  refine a_iast hΓ dX0_init_114 kd_27 ⟨by decide, by decide⟩ ⟨by decide, by decide⟩ ?_
  refine a_aload_n hΓ 1 dX0_init_115 rfl rfl ?_
  refine c_getR (r := 28) hΓ fl_RX0_28 cl_0 kd_25 ⟨by decide, by decide⟩ dX0_init_116 ft_0_9 rfl ?_
  refine a_iload_n hΓ 0 dX0_init_119 rfl rfl ?_
  refine a_iload_n hΓ 0 dX0_init_120 rfl rfl ?_
  refine a_bipush hΓ dX0_init_121 (by decide) ?_
  refine a_icmp_ge (tgt := 131) hΓ (inRl (by decide)) (inRl (by decide)) dX0_init_123 (by decide) (fun c => absurd c (by decide)) (fun _ => ?_)
  refine a_iconst hΓ dX0_init_131 ?_
  refine a_iast hΓ dX0_init_132 kd_28 ⟨by decide, by decide⟩ ⟨by decide, by decide⟩ ?_
  refine a_iinc (ls' := [(1, aI 8), (0, aR 25)]) hΓ 0 dX0_init_133 rfl (by decide) rfl ?_
  refine a_goto (tgt := 91) hΓ dX0_init_136 (by decide) ?_
  refine a_iload_n hΓ 0 dX0_init_91 rfl rfl ?_
  refine a_bipush hΓ dX0_init_92 (by decide) ?_
  refine a_icmp_ge (tgt := 139) hΓ (inRl (by decide)) (inRl (by decide)) dX0_init_94 (by decide) (fun _ => ?_) (fun c => absurd (by decide) c)
  refine a_aload_n hΓ 1 dX0_init_97 rfl rfl ?_
  refine c_getR (r := 27) hΓ fl_RX0_25 cl_0 kd_25 ⟨by decide, by decide⟩ dX0_init_98 ft_0_8 rfl ?_
  refine a_iload_n hΓ 0 dX0_init_101 rfl rfl ?_
  refine a_iload_n hΓ 0 dX0_init_102 rfl rfl ?_
  refine a_bipush hΓ dX0_init_103 (by decide) ?_
  refine a_icmp_ge (tgt := 112) hΓ (inRl (by decide)) (inRl (by decide)) dX0_init_105 (by decide) (fun c => absurd c (by decide)) (fun _ => ?_)
  refine a_bipush hΓ dX0_init_112 (by decide) ?_
  refine a_iast hΓ dX0_init_114 kd_27 ⟨by decide, by decide⟩ ⟨by decide, by decide⟩ ?_
  refine a_aload_n hΓ 1 dX0_init_115 rfl rfl ?_
  refine c_getR (r := 28) hΓ fl_RX0_28 cl_0 kd_25 ⟨by decide, by decide⟩ dX0_init_116 ft_0_9 rfl ?_
  refine a_iload_n hΓ 0 dX0_init_119 rfl rfl ?_
  refine a_iload_n hΓ 0 dX0_init_120 rfl rfl ?_
  refine a_bipush hΓ dX0_init_121 (by decide) ?_
  refine a_icmp_ge (tgt := 131) hΓ (inRl (by decide)) (inRl (by decide)) dX0_init_123 (by decide) (fun c => absurd c (by decide)) (fun _ => ?_)
  refine a_iconst hΓ dX0_init_131 ?_
  refine a_iast hΓ dX0_init_132 kd_28 ⟨by decide, by decide⟩ ⟨by decide, by decide⟩ ?_
  refine a_iinc (ls' := [(1, aI 9), (0, aR 25)]) hΓ 0 dX0_init_133 rfl (by decide) rfl ?_
  refine a_goto (tgt := 91) hΓ dX0_init_136 (by decide) ?_
  refine a_iload_n hΓ 0 dX0_init_91 rfl rfl ?_
  refine a_bipush hΓ dX0_init_92 (by decide) ?_
  refine a_icmp_ge (tgt := 139) hΓ (inRl (by decide)) (inRl (by decide)) dX0_init_94 (by decide) (fun _ => ?_) (fun c => absurd (by decide) c)
  refine a_aload_n hΓ 1 dX0_init_97 rfl rfl ?_
  refine c_getR (r := 27) hΓ fl_RX0_25 cl_0 kd_25 ⟨by decide, by decide⟩ dX0_init_98 ft_0_8 rfl ?_
  refine a_iload_n hΓ 0 dX0_init_101 rfl rfl ?_
  refine a_iload_n hΓ 0 dX0_init_102 rfl rfl ?_
  refine a_bipush hΓ dX0_init_103 (by decide) ?_
  refine a_icmp_ge (tgt := 112) hΓ (inRl (by decide)) (inRl (by decide)) dX0_init_105 (by decide) (fun c => absurd c (by decide)) (fun _ => ?_)
  refine a_bipush hΓ dX0_init_112 (by decide) ?_
  refine a_iast hΓ dX0_init_114 kd_27 ⟨by decide, by decide⟩ ⟨by decide, by decide⟩ ?_
  refine a_aload_n hΓ 1 dX0_init_115 rfl rfl ?_
  refine c_getR (r := 28) hΓ fl_RX0_28 cl_0 kd_25 ⟨by decide, by decide⟩ dX0_init_116 ft_0_9 rfl ?_
  refine a_iload_n hΓ 0 dX0_init_119 rfl rfl ?_
  refine a_iload_n hΓ 0 dX0_init_120 rfl rfl ?_
  refine a_bipush hΓ dX0_init_121 (by decide) ?_
  refine a_icmp_ge (tgt := 131) hΓ (inRl (by decide)) (inRl (by decide)) dX0_init_123 (by decide) (fun c => absurd c (by decide)) (fun _ => ?_)
  refine a_iconst hΓ dX0_init_131 ?_
  refine a_iast hΓ dX0_init_132 kd_28 ⟨by decide, by decide⟩ ⟨by decide, by decide⟩ ?_
  refine a_iinc (ls' := [(1, aI 10), (0, aR 25)]) hΓ 0 dX0_init_133 rfl (by decide) rfl ?_
  refine a_goto (tgt := 91) hΓ dX0_init_136 (by decide) ?_
  refine a_iload_n hΓ 0 dX0_init_91 rfl rfl ?_
  refine a_bipush hΓ dX0_init_92 (by decide) ?_
  refine a_icmp_ge (tgt := 139) hΓ (inRl (by decide)) (inRl (by decide)) dX0_init_94 (by decide) (fun c => absurd c (by decide)) (fun _ => ?_)
  exact a_vret hΓ hr dX0_init_139 ⟨rfl, rfl⟩
def mz12 : Mm := mz11
def rz12 : Rm := (upR rz11 24 0 (some 25))
def mz13 : Mm := (up (up (up mz12 48 2 1) 48 3 100) 48 4 (-1))
def rz13 : Rm := (upR (upR (upR (upR (upR (upR rz12 48 7 (some 49)) 48 8 (some 50)) 48 9 (some 51)) 48 10 (some 52)) 48 11 (some 53)) 48 12 (some 54))
def mz14 : Mm := mz13
def rz14 : Rm := (upR (upR (upR (upR (upR (upR rz13 55 1 (some 56)) 55 2 (some 57)) 55 3 (some 58)) 55 4 (some 59)) 55 5 (some 60)) 55 6 (some 61))
set_option maxHeartbeats 8000000 in
set_option maxRecDepth 20000 in
theorem cc_X3_init_55 (l : Launch) (g : Gp) : Ct l g yX3_init cX3_init 1 none 1 6 360 [aR 55] (56, rz13, mz13) (fun v Z => v = none ∧ Z = (62, rz14, mz14)) := by
  refine ct_of (by decide) (Nat.le_of_ble_eq_true rfl) (fun Γ hg hl hr hin hΓ => ?_)
  subst hg; subst hl
  have hin : Γ.2.2.2.2.2.2.2.2.1.name = "<init>" := hin
  refine a_aload_n hΓ 0 dX3_init_0 rfl rfl ?_
  refine a_obj hΓ (by decide) ml_RX3_3 go_inst go_code (Nat.le_of_ble_eq_true rfl) dX3_init_1 ?_
  refine a_aload_n hΓ 0 dX3_init_4 rfl rfl ?_
  refine a_bipush hΓ dX3_init_5 (by decide) ?_
  refine a_newa (N := 56) (t := 0) (n := 60) hΓ rfl (Or.inl ⟨rfl, rfl⟩) ga_int kd_56 (by decide) (fun _ => rfl) ⟨by decide, by decide⟩ dX3_init_7 ?_
  refine c_putR hΓ fl_RX3_9 cl_3 ff_RX3_9 hin kd_55 ⟨by decide, by decide⟩ dX3_init_9 ft_3_1 ?_
  refine a_aload_n hΓ 0 dX3_init_12 rfl rfl ?_
  refine a_bipush hΓ dX3_init_13 (by decide) ?_
  refine a_newa (N := 57) (t := 0) (n := 60) hΓ rfl (Or.inl ⟨rfl, rfl⟩) ga_int kd_57 (by decide) (fun _ => rfl) ⟨by decide, by decide⟩ dX3_init_15 ?_
  refine c_putR hΓ fl_RX3_15 cl_3 ff_RX3_15 hin kd_55 ⟨by decide, by decide⟩ dX3_init_17 ft_3_2 ?_
  refine a_aload_n hΓ 0 dX3_init_20 rfl rfl ?_
  refine a_bipush hΓ dX3_init_21 (by decide) ?_
  refine a_newa (N := 58) (t := 0) (n := 60) hΓ rfl (Or.inl ⟨rfl, rfl⟩) ga_int kd_58 (by decide) (fun _ => rfl) ⟨by decide, by decide⟩ dX3_init_23 ?_
  refine c_putR hΓ fl_RX3_18 cl_3 ff_RX3_18 hin kd_55 ⟨by decide, by decide⟩ dX3_init_25 ft_3_3 ?_
  refine a_aload_n hΓ 0 dX3_init_28 rfl rfl ?_
  refine a_bipush hΓ dX3_init_29 (by decide) ?_
  refine a_newa (N := 59) (t := 0) (n := 60) hΓ rfl (Or.inl ⟨rfl, rfl⟩) ga_int kd_59 (by decide) (fun _ => rfl) ⟨by decide, by decide⟩ dX3_init_31 ?_
  refine c_putR hΓ fl_RX3_21 cl_3 ff_RX3_21 hin kd_55 ⟨by decide, by decide⟩ dX3_init_33 ft_3_4 ?_
  refine a_aload_n hΓ 0 dX3_init_36 rfl rfl ?_
  refine a_bipush hΓ dX3_init_37 (by decide) ?_
  refine a_newa (N := 60) (t := 0) (n := 60) hΓ rfl (Or.inl ⟨rfl, rfl⟩) ga_int kd_60 (by decide) (fun _ => rfl) ⟨by decide, by decide⟩ dX3_init_39 ?_
  refine c_putR hΓ fl_RX3_24 cl_3 ff_RX3_24 hin kd_55 ⟨by decide, by decide⟩ dX3_init_41 ft_3_5 ?_
  refine a_aload_n hΓ 0 dX3_init_44 rfl rfl ?_
  refine a_bipush hΓ dX3_init_45 (by decide) ?_
  refine a_newa (N := 61) (t := 0) (n := 60) hΓ rfl (Or.inl ⟨rfl, rfl⟩) ga_int kd_61 (by decide) (fun _ => rfl) ⟨by decide, by decide⟩ dX3_init_47 ?_
  refine c_putR hΓ fl_RX3_27 cl_3 ff_RX3_27 hin kd_55 ⟨by decide, by decide⟩ dX3_init_49 ft_3_6 ?_
  exact a_vret hΓ hr dX3_init_52 ⟨rfl, rfl⟩
def mz15 : Mm := mz14
def rz15 : Rm := (upR rz14 48 13 (some 55))
def mz16 : Mm := mz15
def rz16 : Rm := (upR (upR (upR (upR (upR (upR (upR (upR rz15 62 1 (some 63)) 62 2 (some 64)) 62 3 (some 65)) 62 4 (some 66)) 62 5 (some 67)) 62 6 (some 68)) 62 7 (some 69)) 62 8 (some 70))
set_option maxHeartbeats 8000000 in
set_option maxRecDepth 20000 in
theorem cc_X4_init_62 (l : Launch) (g : Gp) : Ct l g yX4_init cX4_init 1 none 1 8 192 [aR 62] (63, rz15, mz15) (fun v Z => v = none ∧ Z = (71, rz16, mz16)) := by
  refine ct_of (by decide) (Nat.le_of_ble_eq_true rfl) (fun Γ hg hl hr hin hΓ => ?_)
  subst hg; subst hl
  have hin : Γ.2.2.2.2.2.2.2.2.1.name = "<init>" := hin
  refine a_aload_n hΓ 0 dX4_init_0 rfl rfl ?_
  refine a_obj hΓ (by decide) ml_RX4_3 go_inst go_code (Nat.le_of_ble_eq_true rfl) dX4_init_1 ?_
  refine a_aload_n hΓ 0 dX4_init_4 rfl rfl ?_
  refine a_bipush hΓ dX4_init_5 (by decide) ?_
  refine a_newa (N := 63) (t := 0) (n := 24) hΓ rfl (Or.inl ⟨rfl, rfl⟩) ga_int kd_63 (by decide) (fun _ => rfl) ⟨by decide, by decide⟩ dX4_init_7 ?_
  refine c_putR hΓ fl_RX4_9 cl_4 ff_RX4_9 hin kd_62 ⟨by decide, by decide⟩ dX4_init_9 ft_4_1 ?_
  refine a_aload_n hΓ 0 dX4_init_12 rfl rfl ?_
  refine a_bipush hΓ dX4_init_13 (by decide) ?_
  refine a_newa (N := 64) (t := 0) (n := 24) hΓ rfl (Or.inl ⟨rfl, rfl⟩) ga_int kd_64 (by decide) (fun _ => rfl) ⟨by decide, by decide⟩ dX4_init_15 ?_
  refine c_putR hΓ fl_RX4_15 cl_4 ff_RX4_15 hin kd_62 ⟨by decide, by decide⟩ dX4_init_17 ft_4_2 ?_
  refine a_aload_n hΓ 0 dX4_init_20 rfl rfl ?_
  refine a_bipush hΓ dX4_init_21 (by decide) ?_
  refine a_newa (N := 65) (t := 0) (n := 24) hΓ rfl (Or.inl ⟨rfl, rfl⟩) ga_int kd_65 (by decide) (fun _ => rfl) ⟨by decide, by decide⟩ dX4_init_23 ?_
  refine c_putR hΓ fl_RX4_18 cl_4 ff_RX4_18 hin kd_62 ⟨by decide, by decide⟩ dX4_init_25 ft_4_3 ?_
  refine a_aload_n hΓ 0 dX4_init_28 rfl rfl ?_
  refine a_bipush hΓ dX4_init_29 (by decide) ?_
  refine a_newa (N := 66) (t := 0) (n := 24) hΓ rfl (Or.inl ⟨rfl, rfl⟩) ga_int kd_66 (by decide) (fun _ => rfl) ⟨by decide, by decide⟩ dX4_init_31 ?_
  refine c_putR hΓ fl_RX4_21 cl_4 ff_RX4_21 hin kd_62 ⟨by decide, by decide⟩ dX4_init_33 ft_4_4 ?_
  refine a_aload_n hΓ 0 dX4_init_36 rfl rfl ?_
  refine a_bipush hΓ dX4_init_37 (by decide) ?_
  refine a_newa (N := 67) (t := 0) (n := 24) hΓ rfl (Or.inl ⟨rfl, rfl⟩) ga_int kd_67 (by decide) (fun _ => rfl) ⟨by decide, by decide⟩ dX4_init_39 ?_
  refine c_putR hΓ fl_RX4_24 cl_4 ff_RX4_24 hin kd_62 ⟨by decide, by decide⟩ dX4_init_41 ft_4_5 ?_
  refine a_aload_n hΓ 0 dX4_init_44 rfl rfl ?_
  refine a_bipush hΓ dX4_init_45 (by decide) ?_
  refine a_newa (N := 68) (t := 0) (n := 24) hΓ rfl (Or.inl ⟨rfl, rfl⟩) ga_int kd_68 (by decide) (fun _ => rfl) ⟨by decide, by decide⟩ dX4_init_47 ?_
  refine c_putR hΓ fl_RX4_27 cl_4 ff_RX4_27 hin kd_62 ⟨by decide, by decide⟩ dX4_init_49 ft_4_6 ?_
  refine a_aload_n hΓ 0 dX4_init_52 rfl rfl ?_
  refine a_bipush hΓ dX4_init_53 (by decide) ?_
  refine a_newa (N := 69) (t := 1) (n := 24) hΓ rfl (Or.inr (Or.inl ⟨rfl, rfl⟩)) ga_boolean kd_69 (by decide) (fun _ => rfl) ⟨by decide, by decide⟩ dX4_init_55 ?_
  refine c_putR hΓ fl_RX4_30 cl_4 ff_RX4_30 hin kd_62 ⟨by decide, by decide⟩ dX4_init_57 ft_4_7 ?_
  refine a_aload_n hΓ 0 dX4_init_60 rfl rfl ?_
  refine a_bipush hΓ dX4_init_61 (by decide) ?_
  refine a_newa (N := 70) (t := 1) (n := 24) hΓ rfl (Or.inr (Or.inl ⟨rfl, rfl⟩)) ga_boolean kd_70 (by decide) (fun _ => rfl) ⟨by decide, by decide⟩ dX4_init_63 ?_
  refine c_putR hΓ fl_RX4_34 cl_4 ff_RX4_34 hin kd_62 ⟨by decide, by decide⟩ dX4_init_65 ft_4_8 ?_
  exact a_vret hΓ hr dX4_init_68 ⟨rfl, rfl⟩
def mz17 : Mm := (up (up (up (up (up (up (up (up (up (up (up (up (up (up (up (up (up (up (up (up mz16 50 0 0) 51 0 10) 50 1 0) 51 1 10) 50 2 0) 51 2 10) 50 3 0) 51 3 10) 50 4 0) 51 4 10) 50 5 0) 51 5 10) 50 6 (-10)) 51 6 0) 50 7 (-10)) 51 7 0) 50 8 (-10)) 51 8 0) 50 9 (-10)) 51 9 0)
def rz17 : Rm := (upR rz16 48 14 (some 62))
set_option maxHeartbeats 8000000 in
set_option maxRecDepth 20000 in
theorem cc_X0_init_48 (l : Launch) (g : Gp) : Ct l g yX0_init cX0_init 2 none 2 22 711 [aR 48] (49, rz12, mz12) (fun v Z => v = none ∧ Z = (71, rz17, mz17)) := by
  refine ct_of (by decide) (Nat.le_of_ble_eq_true rfl) (fun Γ hg hl hr hin hΓ => ?_)
  subst hg; subst hl
  have hin : Γ.2.2.2.2.2.2.2.2.1.name = "<init>" := hin
  refine a_aload_n hΓ 0 dX0_init_0 rfl rfl ?_
  refine a_obj hΓ (by decide) ml_RX0_3 go_inst go_code (Nat.le_of_ble_eq_true rfl) dX0_init_1 ?_
  refine a_aload_n hΓ 0 dX0_init_4 rfl rfl ?_
  refine a_iconst hΓ dX0_init_5 ?_
  refine c_putI (j := 2) hΓ fl_RX0_9 cl_0 nf_0_2 kd_48 ⟨by decide, by decide⟩ dX0_init_6 ft_0_2 rfl ?_
  refine a_aload_n hΓ 0 dX0_init_9 rfl rfl ?_
  refine a_bipush hΓ dX0_init_10 (by decide) ?_
  refine c_putI (j := 3) hΓ fl_RX0_15 cl_0 nf_0_3 kd_48 ⟨by decide, by decide⟩ dX0_init_12 ft_0_3 rfl ?_
  refine a_aload_n hΓ 0 dX0_init_15 rfl rfl ?_
  refine a_iconst hΓ dX0_init_16 ?_
  refine c_putI (j := 4) hΓ fl_RX0_18 cl_0 nf_0_4 kd_48 ⟨by decide, by decide⟩ dX0_init_17 ft_0_4 rfl ?_
  refine a_aload_n hΓ 0 dX0_init_20 rfl rfl ?_
  refine a_iconst hΓ dX0_init_21 ?_
  refine a_newa (N := 49) (t := 0) (n := 3) hΓ rfl (Or.inl ⟨rfl, rfl⟩) ga_int kd_49 (by decide) (fun _ => rfl) ⟨by decide, by decide⟩ dX0_init_22 ?_
  refine c_putR hΓ fl_RX0_21 cl_0 ff_RX0_21 hin kd_48 ⟨by decide, by decide⟩ dX0_init_24 ft_0_7 ?_
  refine a_aload_n hΓ 0 dX0_init_27 rfl rfl ?_
  refine a_bipush hΓ dX0_init_28 (by decide) ?_
  refine a_newa (N := 50) (t := 0) (n := 10) hΓ rfl (Or.inl ⟨rfl, rfl⟩) ga_int kd_50 (by decide) (fun _ => rfl) ⟨by decide, by decide⟩ dX0_init_30 ?_
  refine c_putR hΓ fl_RX0_25 cl_0 ff_RX0_25 hin kd_48 ⟨by decide, by decide⟩ dX0_init_32 ft_0_8 ?_
  refine a_aload_n hΓ 0 dX0_init_35 rfl rfl ?_
  refine a_bipush hΓ dX0_init_36 (by decide) ?_
  refine a_newa (N := 51) (t := 0) (n := 10) hΓ rfl (Or.inl ⟨rfl, rfl⟩) ga_int kd_51 (by decide) (fun _ => rfl) ⟨by decide, by decide⟩ dX0_init_38 ?_
  refine c_putR hΓ fl_RX0_28 cl_0 ff_RX0_28 hin kd_48 ⟨by decide, by decide⟩ dX0_init_40 ft_0_9 ?_
  refine a_aload_n hΓ 0 dX0_init_43 rfl rfl ?_
  refine a_bipush hΓ dX0_init_44 (by decide) ?_
  refine a_newa (N := 52) (t := 0) (n := 40) hΓ rfl (Or.inl ⟨rfl, rfl⟩) ga_int kd_52 (by decide) (fun _ => rfl) ⟨by decide, by decide⟩ dX0_init_46 ?_
  refine c_putR hΓ fl_RX0_31 cl_0 ff_RX0_31 hin kd_48 ⟨by decide, by decide⟩ dX0_init_48 ft_0_10 ?_
  refine a_aload_n hΓ 0 dX0_init_51 rfl rfl ?_
  refine a_bipush hΓ dX0_init_52 (by decide) ?_
  refine a_newa (N := 53) (t := 0) (n := 40) hΓ rfl (Or.inl ⟨rfl, rfl⟩) ga_int kd_53 (by decide) (fun _ => rfl) ⟨by decide, by decide⟩ dX0_init_54 ?_
  refine c_putR hΓ fl_RX0_34 cl_0 ff_RX0_34 hin kd_48 ⟨by decide, by decide⟩ dX0_init_56 ft_0_11 ?_
  refine a_aload_n hΓ 0 dX0_init_59 rfl rfl ?_
  refine a_bipush hΓ dX0_init_60 (by decide) ?_
  refine a_newa (N := 54) (t := 0) (n := 40) hΓ rfl (Or.inl ⟨rfl, rfl⟩) ga_int kd_54 (by decide) (fun _ => rfl) ⟨by decide, by decide⟩ dX0_init_62 ?_
  refine c_putR hΓ fl_RX0_37 cl_0 ff_RX0_37 hin kd_48 ⟨by decide, by decide⟩ dX0_init_64 ft_0_12 ?_
  refine a_aload_n hΓ 0 dX0_init_67 rfl rfl ?_
  refine a_new (N := 55) hΓ (show vwCl[3]? = some (RX3, TX3, 7) from rfl) cl_3 kl_RX0_40 ki_3 kn_3 kd_55 (by decide) (fun _ => rfl) (fun _ => rfl) ⟨by decide, by decide⟩ dX0_init_68 ?_
  refine a_dupR hΓ dX0_init_71 ?_
  refine c_Z (Z' := (56, rz13, mz13)) rfl ?_
  refine a_callI (c := 55) (av := []) (st := [aR 55, aR 48]) hΓ (cc_X3_init_55 _ _) my_X3_init ml_RX0_42 rfl ⟨by decide, by decide⟩ rfl (by decide) (by decide) ⟨by decide, by decide⟩ (Nat.le_of_ble_eq_true rfl) rfl dX0_init_72 (fun v Z' hq => ?_)
  obtain ⟨rfl, rfl⟩ := hq
  refine c_k (kc' := 13) (ks' := 510) rfl rfl (62, rz14, mz14) ?_
  refine c_putR hΓ fl_RX0_43 cl_0 ff_RX0_43 hin kd_48 ⟨by decide, by decide⟩ dX0_init_75 ft_0_13 ?_
  refine a_aload_n hΓ 0 dX0_init_78 rfl rfl ?_
  refine a_new (N := 62) hΓ (show vwCl[4]? = some (RX4, TX4, 9) from rfl) cl_4 kl_RX0_47 ki_4 kn_4 kd_62 (by decide) (fun _ => rfl) (fun _ => rfl) ⟨by decide, by decide⟩ dX0_init_79 ?_
  refine a_dupR hΓ dX0_init_82 ?_
  refine c_Z (Z' := (63, rz15, mz15)) rfl ?_
  refine a_callI (c := 62) (av := []) (st := [aR 62, aR 48]) hΓ (cc_X4_init_62 _ _) my_X4_init ml_RX0_49 rfl ⟨by decide, by decide⟩ rfl (by decide) (by decide) ⟨by decide, by decide⟩ (Nat.le_of_ble_eq_true rfl) rfl dX0_init_83 (fun v Z' hq => ?_)
  obtain ⟨rfl, rfl⟩ := hq
  refine c_k (kc' := 22) (ks' := 711) rfl rfl (71, rz16, mz16) ?_
  refine c_putR hΓ fl_RX0_50 cl_0 ff_RX0_50 hin kd_48 ⟨by decide, by decide⟩ dX0_init_86 ft_0_14 ?_
  refine a_iconst hΓ dX0_init_89 ?_
  refine a_istore_n (ls' := [(1, aI 0), (0, aR 48)]) hΓ dX0_init_90 rfl (by decide) rfl ?_
  refine a_iload_n hΓ 0 dX0_init_91 rfl rfl ?_
  refine a_bipush hΓ dX0_init_92 (by decide) ?_
  refine a_icmp_ge (tgt := 139) hΓ (inRl (by decide)) (inRl (by decide)) dX0_init_94 (by decide) (fun _ => ?_) (fun c => absurd (by decide) c)
  refine a_aload_n hΓ 1 dX0_init_97 rfl rfl ?_
  refine c_getR (r := 50) hΓ fl_RX0_25 cl_0 kd_48 ⟨by decide, by decide⟩ dX0_init_98 ft_0_8 rfl ?_
  refine a_iload_n hΓ 0 dX0_init_101 rfl rfl ?_
  refine a_iload_n hΓ 0 dX0_init_102 rfl rfl ?_
  refine a_bipush hΓ dX0_init_103 (by decide) ?_
  refine a_icmp_ge (tgt := 112) hΓ (inRl (by decide)) (inRl (by decide)) dX0_init_105 (by decide) (fun _ => ?_) (fun c => absurd (by decide) c)
  refine a_iconst hΓ dX0_init_108 ?_
  refine a_goto (tgt := 114) hΓ dX0_init_109 (by decide) ?_
  refine a_iast hΓ dX0_init_114 kd_50 ⟨by decide, by decide⟩ ⟨by decide, by decide⟩ ?_
  refine a_aload_n hΓ 1 dX0_init_115 rfl rfl ?_
  refine c_getR (r := 51) hΓ fl_RX0_28 cl_0 kd_48 ⟨by decide, by decide⟩ dX0_init_116 ft_0_9 rfl ?_
  refine a_iload_n hΓ 0 dX0_init_119 rfl rfl ?_
  refine a_iload_n hΓ 0 dX0_init_120 rfl rfl ?_
  refine a_bipush hΓ dX0_init_121 (by decide) ?_
  refine a_icmp_ge (tgt := 131) hΓ (inRl (by decide)) (inRl (by decide)) dX0_init_123 (by decide) (fun _ => ?_) (fun c => absurd (by decide) c)
  refine a_bipush hΓ dX0_init_126 (by decide) ?_
  refine a_goto (tgt := 132) hΓ dX0_init_128 (by decide) ?_
  refine a_iast hΓ dX0_init_132 kd_51 ⟨by decide, by decide⟩ ⟨by decide, by decide⟩ ?_
  refine a_iinc (ls' := [(1, aI 1), (0, aR 48)]) hΓ 0 dX0_init_133 rfl (by decide) rfl ?_
  refine a_goto (tgt := 91) hΓ dX0_init_136 (by decide) ?_
  refine a_iload_n hΓ 0 dX0_init_91 rfl rfl ?_
  refine a_bipush hΓ dX0_init_92 (by decide) ?_
  refine a_icmp_ge (tgt := 139) hΓ (inRl (by decide)) (inRl (by decide)) dX0_init_94 (by decide) (fun _ => ?_) (fun c => absurd (by decide) c)
  refine a_aload_n hΓ 1 dX0_init_97 rfl rfl ?_
  refine c_getR (r := 50) hΓ fl_RX0_25 cl_0 kd_48 ⟨by decide, by decide⟩ dX0_init_98 ft_0_8 rfl ?_
  refine a_iload_n hΓ 0 dX0_init_101 rfl rfl ?_
  refine a_iload_n hΓ 0 dX0_init_102 rfl rfl ?_
  refine a_bipush hΓ dX0_init_103 (by decide) ?_
  refine a_icmp_ge (tgt := 112) hΓ (inRl (by decide)) (inRl (by decide)) dX0_init_105 (by decide) (fun _ => ?_) (fun c => absurd (by decide) c)
  refine a_iconst hΓ dX0_init_108 ?_
  refine a_goto (tgt := 114) hΓ dX0_init_109 (by decide) ?_
  refine a_iast hΓ dX0_init_114 kd_50 ⟨by decide, by decide⟩ ⟨by decide, by decide⟩ ?_
  refine a_aload_n hΓ 1 dX0_init_115 rfl rfl ?_
  refine c_getR (r := 51) hΓ fl_RX0_28 cl_0 kd_48 ⟨by decide, by decide⟩ dX0_init_116 ft_0_9 rfl ?_
  refine a_iload_n hΓ 0 dX0_init_119 rfl rfl ?_
  refine a_iload_n hΓ 0 dX0_init_120 rfl rfl ?_
  refine a_bipush hΓ dX0_init_121 (by decide) ?_
  refine a_icmp_ge (tgt := 131) hΓ (inRl (by decide)) (inRl (by decide)) dX0_init_123 (by decide) (fun _ => ?_) (fun c => absurd (by decide) c)
  refine a_bipush hΓ dX0_init_126 (by decide) ?_
  refine a_goto (tgt := 132) hΓ dX0_init_128 (by decide) ?_
  refine a_iast hΓ dX0_init_132 kd_51 ⟨by decide, by decide⟩ ⟨by decide, by decide⟩ ?_
  refine a_iinc (ls' := [(1, aI 2), (0, aR 48)]) hΓ 0 dX0_init_133 rfl (by decide) rfl ?_
  refine a_goto (tgt := 91) hΓ dX0_init_136 (by decide) ?_
  refine a_iload_n hΓ 0 dX0_init_91 rfl rfl ?_
  refine a_bipush hΓ dX0_init_92 (by decide) ?_
  refine a_icmp_ge (tgt := 139) hΓ (inRl (by decide)) (inRl (by decide)) dX0_init_94 (by decide) (fun _ => ?_) (fun c => absurd (by decide) c)
  refine a_aload_n hΓ 1 dX0_init_97 rfl rfl ?_
  refine c_getR (r := 50) hΓ fl_RX0_25 cl_0 kd_48 ⟨by decide, by decide⟩ dX0_init_98 ft_0_8 rfl ?_
  refine a_iload_n hΓ 0 dX0_init_101 rfl rfl ?_
  refine a_iload_n hΓ 0 dX0_init_102 rfl rfl ?_
  refine a_bipush hΓ dX0_init_103 (by decide) ?_
  refine a_icmp_ge (tgt := 112) hΓ (inRl (by decide)) (inRl (by decide)) dX0_init_105 (by decide) (fun _ => ?_) (fun c => absurd (by decide) c)
  refine a_iconst hΓ dX0_init_108 ?_
  refine a_goto (tgt := 114) hΓ dX0_init_109 (by decide) ?_
  refine a_iast hΓ dX0_init_114 kd_50 ⟨by decide, by decide⟩ ⟨by decide, by decide⟩ ?_
  refine a_aload_n hΓ 1 dX0_init_115 rfl rfl ?_
  refine c_getR (r := 51) hΓ fl_RX0_28 cl_0 kd_48 ⟨by decide, by decide⟩ dX0_init_116 ft_0_9 rfl ?_
  refine a_iload_n hΓ 0 dX0_init_119 rfl rfl ?_
  refine a_iload_n hΓ 0 dX0_init_120 rfl rfl ?_
  refine a_bipush hΓ dX0_init_121 (by decide) ?_
  refine a_icmp_ge (tgt := 131) hΓ (inRl (by decide)) (inRl (by decide)) dX0_init_123 (by decide) (fun _ => ?_) (fun c => absurd (by decide) c)
  refine a_bipush hΓ dX0_init_126 (by decide) ?_
  refine a_goto (tgt := 132) hΓ dX0_init_128 (by decide) ?_
  refine a_iast hΓ dX0_init_132 kd_51 ⟨by decide, by decide⟩ ⟨by decide, by decide⟩ ?_
  refine a_iinc (ls' := [(1, aI 3), (0, aR 48)]) hΓ 0 dX0_init_133 rfl (by decide) rfl ?_
  refine a_goto (tgt := 91) hΓ dX0_init_136 (by decide) ?_
  refine a_iload_n hΓ 0 dX0_init_91 rfl rfl ?_
  refine a_bipush hΓ dX0_init_92 (by decide) ?_
  refine a_icmp_ge (tgt := 139) hΓ (inRl (by decide)) (inRl (by decide)) dX0_init_94 (by decide) (fun _ => ?_) (fun c => absurd (by decide) c)
  refine a_aload_n hΓ 1 dX0_init_97 rfl rfl ?_
  refine c_getR (r := 50) hΓ fl_RX0_25 cl_0 kd_48 ⟨by decide, by decide⟩ dX0_init_98 ft_0_8 rfl ?_
  refine a_iload_n hΓ 0 dX0_init_101 rfl rfl ?_
  refine a_iload_n hΓ 0 dX0_init_102 rfl rfl ?_
  refine a_bipush hΓ dX0_init_103 (by decide) ?_
  refine a_icmp_ge (tgt := 112) hΓ (inRl (by decide)) (inRl (by decide)) dX0_init_105 (by decide) (fun _ => ?_) (fun c => absurd (by decide) c)
  refine a_iconst hΓ dX0_init_108 ?_
  refine a_goto (tgt := 114) hΓ dX0_init_109 (by decide) ?_
  refine a_iast hΓ dX0_init_114 kd_50 ⟨by decide, by decide⟩ ⟨by decide, by decide⟩ ?_
  refine a_aload_n hΓ 1 dX0_init_115 rfl rfl ?_
  refine c_getR (r := 51) hΓ fl_RX0_28 cl_0 kd_48 ⟨by decide, by decide⟩ dX0_init_116 ft_0_9 rfl ?_
  refine a_iload_n hΓ 0 dX0_init_119 rfl rfl ?_
  refine a_iload_n hΓ 0 dX0_init_120 rfl rfl ?_
  refine a_bipush hΓ dX0_init_121 (by decide) ?_
  refine a_icmp_ge (tgt := 131) hΓ (inRl (by decide)) (inRl (by decide)) dX0_init_123 (by decide) (fun _ => ?_) (fun c => absurd (by decide) c)
  refine a_bipush hΓ dX0_init_126 (by decide) ?_
  refine a_goto (tgt := 132) hΓ dX0_init_128 (by decide) ?_
  refine a_iast hΓ dX0_init_132 kd_51 ⟨by decide, by decide⟩ ⟨by decide, by decide⟩ ?_
  refine a_iinc (ls' := [(1, aI 4), (0, aR 48)]) hΓ 0 dX0_init_133 rfl (by decide) rfl ?_
  refine a_goto (tgt := 91) hΓ dX0_init_136 (by decide) ?_
  refine a_iload_n hΓ 0 dX0_init_91 rfl rfl ?_
  refine a_bipush hΓ dX0_init_92 (by decide) ?_
  refine a_icmp_ge (tgt := 139) hΓ (inRl (by decide)) (inRl (by decide)) dX0_init_94 (by decide) (fun _ => ?_) (fun c => absurd (by decide) c)
  refine a_aload_n hΓ 1 dX0_init_97 rfl rfl ?_
  refine c_getR (r := 50) hΓ fl_RX0_25 cl_0 kd_48 ⟨by decide, by decide⟩ dX0_init_98 ft_0_8 rfl ?_
  refine a_iload_n hΓ 0 dX0_init_101 rfl rfl ?_
  refine a_iload_n hΓ 0 dX0_init_102 rfl rfl ?_
  refine a_bipush hΓ dX0_init_103 (by decide) ?_
  refine a_icmp_ge (tgt := 112) hΓ (inRl (by decide)) (inRl (by decide)) dX0_init_105 (by decide) (fun _ => ?_) (fun c => absurd (by decide) c)
  refine a_iconst hΓ dX0_init_108 ?_
  refine a_goto (tgt := 114) hΓ dX0_init_109 (by decide) ?_
  refine a_iast hΓ dX0_init_114 kd_50 ⟨by decide, by decide⟩ ⟨by decide, by decide⟩ ?_
  refine a_aload_n hΓ 1 dX0_init_115 rfl rfl ?_
  refine c_getR (r := 51) hΓ fl_RX0_28 cl_0 kd_48 ⟨by decide, by decide⟩ dX0_init_116 ft_0_9 rfl ?_
  refine a_iload_n hΓ 0 dX0_init_119 rfl rfl ?_
  refine a_iload_n hΓ 0 dX0_init_120 rfl rfl ?_
  refine a_bipush hΓ dX0_init_121 (by decide) ?_
  refine a_icmp_ge (tgt := 131) hΓ (inRl (by decide)) (inRl (by decide)) dX0_init_123 (by decide) (fun _ => ?_) (fun c => absurd (by decide) c)
  refine a_bipush hΓ dX0_init_126 (by decide) ?_
  refine a_goto (tgt := 132) hΓ dX0_init_128 (by decide) ?_
  refine a_iast hΓ dX0_init_132 kd_51 ⟨by decide, by decide⟩ ⟨by decide, by decide⟩ ?_
  refine a_iinc (ls' := [(1, aI 5), (0, aR 48)]) hΓ 0 dX0_init_133 rfl (by decide) rfl ?_
  refine a_goto (tgt := 91) hΓ dX0_init_136 (by decide) ?_
  refine a_iload_n hΓ 0 dX0_init_91 rfl rfl ?_
  refine a_bipush hΓ dX0_init_92 (by decide) ?_
  refine a_icmp_ge (tgt := 139) hΓ (inRl (by decide)) (inRl (by decide)) dX0_init_94 (by decide) (fun _ => ?_) (fun c => absurd (by decide) c)
  refine a_aload_n hΓ 1 dX0_init_97 rfl rfl ?_
  refine c_getR (r := 50) hΓ fl_RX0_25 cl_0 kd_48 ⟨by decide, by decide⟩ dX0_init_98 ft_0_8 rfl ?_
  refine a_iload_n hΓ 0 dX0_init_101 rfl rfl ?_
  refine a_iload_n hΓ 0 dX0_init_102 rfl rfl ?_
  refine a_bipush hΓ dX0_init_103 (by decide) ?_
  refine a_icmp_ge (tgt := 112) hΓ (inRl (by decide)) (inRl (by decide)) dX0_init_105 (by decide) (fun _ => ?_) (fun c => absurd (by decide) c)
  refine a_iconst hΓ dX0_init_108 ?_
  refine a_goto (tgt := 114) hΓ dX0_init_109 (by decide) ?_
  refine a_iast hΓ dX0_init_114 kd_50 ⟨by decide, by decide⟩ ⟨by decide, by decide⟩ ?_
  refine a_aload_n hΓ 1 dX0_init_115 rfl rfl ?_
  refine c_getR (r := 51) hΓ fl_RX0_28 cl_0 kd_48 ⟨by decide, by decide⟩ dX0_init_116 ft_0_9 rfl ?_
  refine a_iload_n hΓ 0 dX0_init_119 rfl rfl ?_
  refine a_iload_n hΓ 0 dX0_init_120 rfl rfl ?_
  refine a_bipush hΓ dX0_init_121 (by decide) ?_
  refine a_icmp_ge (tgt := 131) hΓ (inRl (by decide)) (inRl (by decide)) dX0_init_123 (by decide) (fun _ => ?_) (fun c => absurd (by decide) c)
  refine a_bipush hΓ dX0_init_126 (by decide) ?_
  refine a_goto (tgt := 132) hΓ dX0_init_128 (by decide) ?_
  refine a_iast hΓ dX0_init_132 kd_51 ⟨by decide, by decide⟩ ⟨by decide, by decide⟩ ?_
  refine a_iinc (ls' := [(1, aI 6), (0, aR 48)]) hΓ 0 dX0_init_133 rfl (by decide) rfl ?_
  refine a_goto (tgt := 91) hΓ dX0_init_136 (by decide) ?_
  refine a_iload_n hΓ 0 dX0_init_91 rfl rfl ?_
  refine a_bipush hΓ dX0_init_92 (by decide) ?_
  refine a_icmp_ge (tgt := 139) hΓ (inRl (by decide)) (inRl (by decide)) dX0_init_94 (by decide) (fun _ => ?_) (fun c => absurd (by decide) c)
  refine a_aload_n hΓ 1 dX0_init_97 rfl rfl ?_
  refine c_getR (r := 50) hΓ fl_RX0_25 cl_0 kd_48 ⟨by decide, by decide⟩ dX0_init_98 ft_0_8 rfl ?_
  refine a_iload_n hΓ 0 dX0_init_101 rfl rfl ?_
  refine a_iload_n hΓ 0 dX0_init_102 rfl rfl ?_
  refine a_bipush hΓ dX0_init_103 (by decide) ?_
  refine a_icmp_ge (tgt := 112) hΓ (inRl (by decide)) (inRl (by decide)) dX0_init_105 (by decide) (fun c => absurd c (by decide)) (fun _ => ?_)
  refine a_bipush hΓ dX0_init_112 (by decide) ?_
  refine a_iast hΓ dX0_init_114 kd_50 ⟨by decide, by decide⟩ ⟨by decide, by decide⟩ ?_
  refine a_aload_n hΓ 1 dX0_init_115 rfl rfl ?_
  refine c_getR (r := 51) hΓ fl_RX0_28 cl_0 kd_48 ⟨by decide, by decide⟩ dX0_init_116 ft_0_9 rfl ?_
  refine a_iload_n hΓ 0 dX0_init_119 rfl rfl ?_
  refine a_iload_n hΓ 0 dX0_init_120 rfl rfl ?_
  refine a_bipush hΓ dX0_init_121 (by decide) ?_
  refine a_icmp_ge (tgt := 131) hΓ (inRl (by decide)) (inRl (by decide)) dX0_init_123 (by decide) (fun c => absurd c (by decide)) (fun _ => ?_)
  refine a_iconst hΓ dX0_init_131 ?_
  refine a_iast hΓ dX0_init_132 kd_51 ⟨by decide, by decide⟩ ⟨by decide, by decide⟩ ?_
  refine a_iinc (ls' := [(1, aI 7), (0, aR 48)]) hΓ 0 dX0_init_133 rfl (by decide) rfl ?_
  refine a_goto (tgt := 91) hΓ dX0_init_136 (by decide) ?_
  refine a_iload_n hΓ 0 dX0_init_91 rfl rfl ?_
  refine a_bipush hΓ dX0_init_92 (by decide) ?_
  refine a_icmp_ge (tgt := 139) hΓ (inRl (by decide)) (inRl (by decide)) dX0_init_94 (by decide) (fun _ => ?_) (fun c => absurd (by decide) c)
  refine a_aload_n hΓ 1 dX0_init_97 rfl rfl ?_
  refine c_getR (r := 50) hΓ fl_RX0_25 cl_0 kd_48 ⟨by decide, by decide⟩ dX0_init_98 ft_0_8 rfl ?_
  refine a_iload_n hΓ 0 dX0_init_101 rfl rfl ?_
  refine a_iload_n hΓ 0 dX0_init_102 rfl rfl ?_
  refine a_bipush hΓ dX0_init_103 (by decide) ?_
  refine a_icmp_ge (tgt := 112) hΓ (inRl (by decide)) (inRl (by decide)) dX0_init_105 (by decide) (fun c => absurd c (by decide)) (fun _ => ?_)
  refine a_bipush hΓ dX0_init_112 (by decide) ?_
  refine a_iast hΓ dX0_init_114 kd_50 ⟨by decide, by decide⟩ ⟨by decide, by decide⟩ ?_
  refine a_aload_n hΓ 1 dX0_init_115 rfl rfl ?_
  refine c_getR (r := 51) hΓ fl_RX0_28 cl_0 kd_48 ⟨by decide, by decide⟩ dX0_init_116 ft_0_9 rfl ?_
  refine a_iload_n hΓ 0 dX0_init_119 rfl rfl ?_
  refine a_iload_n hΓ 0 dX0_init_120 rfl rfl ?_
  refine a_bipush hΓ dX0_init_121 (by decide) ?_
  refine a_icmp_ge (tgt := 131) hΓ (inRl (by decide)) (inRl (by decide)) dX0_init_123 (by decide) (fun c => absurd c (by decide)) (fun _ => ?_)
  refine a_iconst hΓ dX0_init_131 ?_
  refine a_iast hΓ dX0_init_132 kd_51 ⟨by decide, by decide⟩ ⟨by decide, by decide⟩ ?_
  refine a_iinc (ls' := [(1, aI 8), (0, aR 48)]) hΓ 0 dX0_init_133 rfl (by decide) rfl ?_
  refine a_goto (tgt := 91) hΓ dX0_init_136 (by decide) ?_
  refine a_iload_n hΓ 0 dX0_init_91 rfl rfl ?_
  refine a_bipush hΓ dX0_init_92 (by decide) ?_
  refine a_icmp_ge (tgt := 139) hΓ (inRl (by decide)) (inRl (by decide)) dX0_init_94 (by decide) (fun _ => ?_) (fun c => absurd (by decide) c)
  refine a_aload_n hΓ 1 dX0_init_97 rfl rfl ?_
  refine c_getR (r := 50) hΓ fl_RX0_25 cl_0 kd_48 ⟨by decide, by decide⟩ dX0_init_98 ft_0_8 rfl ?_
  refine a_iload_n hΓ 0 dX0_init_101 rfl rfl ?_
  refine a_iload_n hΓ 0 dX0_init_102 rfl rfl ?_
  refine a_bipush hΓ dX0_init_103 (by decide) ?_
  refine a_icmp_ge (tgt := 112) hΓ (inRl (by decide)) (inRl (by decide)) dX0_init_105 (by decide) (fun c => absurd c (by decide)) (fun _ => ?_)
  refine a_bipush hΓ dX0_init_112 (by decide) ?_
  refine a_iast hΓ dX0_init_114 kd_50 ⟨by decide, by decide⟩ ⟨by decide, by decide⟩ ?_
  refine a_aload_n hΓ 1 dX0_init_115 rfl rfl ?_
  refine c_getR (r := 51) hΓ fl_RX0_28 cl_0 kd_48 ⟨by decide, by decide⟩ dX0_init_116 ft_0_9 rfl ?_
  refine a_iload_n hΓ 0 dX0_init_119 rfl rfl ?_
  refine a_iload_n hΓ 0 dX0_init_120 rfl rfl ?_
  refine a_bipush hΓ dX0_init_121 (by decide) ?_
  refine a_icmp_ge (tgt := 131) hΓ (inRl (by decide)) (inRl (by decide)) dX0_init_123 (by decide) (fun c => absurd c (by decide)) (fun _ => ?_)
  refine a_iconst hΓ dX0_init_131 ?_
  refine a_iast hΓ dX0_init_132 kd_51 ⟨by decide, by decide⟩ ⟨by decide, by decide⟩ ?_
  refine a_iinc (ls' := [(1, aI 9), (0, aR 48)]) hΓ 0 dX0_init_133 rfl (by decide) rfl ?_
  refine a_goto (tgt := 91) hΓ dX0_init_136 (by decide) ?_
  refine a_iload_n hΓ 0 dX0_init_91 rfl rfl ?_
  refine a_bipush hΓ dX0_init_92 (by decide) ?_
  refine a_icmp_ge (tgt := 139) hΓ (inRl (by decide)) (inRl (by decide)) dX0_init_94 (by decide) (fun _ => ?_) (fun c => absurd (by decide) c)
  refine a_aload_n hΓ 1 dX0_init_97 rfl rfl ?_
  refine c_getR (r := 50) hΓ fl_RX0_25 cl_0 kd_48 ⟨by decide, by decide⟩ dX0_init_98 ft_0_8 rfl ?_
  refine a_iload_n hΓ 0 dX0_init_101 rfl rfl ?_
  refine a_iload_n hΓ 0 dX0_init_102 rfl rfl ?_
  refine a_bipush hΓ dX0_init_103 (by decide) ?_
  refine a_icmp_ge (tgt := 112) hΓ (inRl (by decide)) (inRl (by decide)) dX0_init_105 (by decide) (fun c => absurd c (by decide)) (fun _ => ?_)
  refine a_bipush hΓ dX0_init_112 (by decide) ?_
  refine a_iast hΓ dX0_init_114 kd_50 ⟨by decide, by decide⟩ ⟨by decide, by decide⟩ ?_
  refine a_aload_n hΓ 1 dX0_init_115 rfl rfl ?_
  refine c_getR (r := 51) hΓ fl_RX0_28 cl_0 kd_48 ⟨by decide, by decide⟩ dX0_init_116 ft_0_9 rfl ?_
  refine a_iload_n hΓ 0 dX0_init_119 rfl rfl ?_
  refine a_iload_n hΓ 0 dX0_init_120 rfl rfl ?_
  refine a_bipush hΓ dX0_init_121 (by decide) ?_
  refine a_icmp_ge (tgt := 131) hΓ (inRl (by decide)) (inRl (by decide)) dX0_init_123 (by decide) (fun c => absurd c (by decide)) (fun _ => ?_)
  refine a_iconst hΓ dX0_init_131 ?_
  refine a_iast hΓ dX0_init_132 kd_51 ⟨by decide, by decide⟩ ⟨by decide, by decide⟩ ?_
  refine a_iinc (ls' := [(1, aI 10), (0, aR 48)]) hΓ 0 dX0_init_133 rfl (by decide) rfl ?_
  refine a_goto (tgt := 91) hΓ dX0_init_136 (by decide) ?_
  refine a_iload_n hΓ 0 dX0_init_91 rfl rfl ?_
  refine a_bipush hΓ dX0_init_92 (by decide) ?_
  refine a_icmp_ge (tgt := 139) hΓ (inRl (by decide)) (inRl (by decide)) dX0_init_94 (by decide) (fun c => absurd c (by decide)) (fun _ => ?_)
  exact a_vret hΓ hr dX0_init_139 ⟨rfl, rfl⟩
def mz18 : Mm := mz17
def rz18 : Rm := (upR (upR rz17 24 1 (some 48)) 0 2 (some 71))
def mz19 : Mm := mz18
def rz19 : Rm := (upR (upR (upR (upR (upR (upR (upR (upR (upR (upR (upR rz18 72 2 (some 73)) 72 3 (some 74)) 72 4 (some 75)) 72 5 (some 76)) 72 6 (some 77)) 72 7 (some 78)) 72 9 (some 79)) 72 10 (some 80)) 72 11 (some 81)) 72 12 (some 82)) 72 0 (some 1))
set_option maxHeartbeats 8000000 in
set_option maxRecDepth 20000 in
theorem cc_X6_init_72 (l : Launch) (g : Gp) : Ct l g yX6_init cX6_init 2 none 1 10 1008 [aR 72, aR 1] (73, rz18, mz18) (fun v Z => v = none ∧ Z = (83, rz19, mz19)) := by
  refine ct_of (by decide) (Nat.le_of_ble_eq_true rfl) (fun Γ hg hl hr hin hΓ => ?_)
  subst hg; subst hl
  have hin : Γ.2.2.2.2.2.2.2.2.1.name = "<init>" := hin
  refine a_aload_n hΓ 0 dX6_init_0 rfl rfl ?_
  refine a_obj hΓ (by decide) ml_RX6_3 go_inst go_code (Nat.le_of_ble_eq_true rfl) dX6_init_1 ?_
  refine a_aload_n hΓ 0 dX6_init_4 rfl rfl ?_
  refine a_bipush hΓ dX6_init_5 (by decide) ?_
  refine a_newa (N := 73) (t := 0) (n := 120) hΓ rfl (Or.inl ⟨rfl, rfl⟩) ga_int kd_73 (by decide) (fun _ => rfl) ⟨by decide, by decide⟩ dX6_init_7 ?_
  refine c_putR hΓ fl_RX6_9 cl_6 ff_RX6_9 hin kd_72 ⟨by decide, by decide⟩ dX6_init_9 ft_6_2 ?_
  refine a_aload_n hΓ 0 dX6_init_12 rfl rfl ?_
  refine a_bipush hΓ dX6_init_13 (by decide) ?_
  refine a_newa (N := 74) (t := 0) (n := 120) hΓ rfl (Or.inl ⟨rfl, rfl⟩) ga_int kd_74 (by decide) (fun _ => rfl) ⟨by decide, by decide⟩ dX6_init_15 ?_
  refine c_putR hΓ fl_RX6_15 cl_6 ff_RX6_15 hin kd_72 ⟨by decide, by decide⟩ dX6_init_17 ft_6_3 ?_
  refine a_aload_n hΓ 0 dX6_init_20 rfl rfl ?_
  refine a_bipush hΓ dX6_init_21 (by decide) ?_
  refine a_newa (N := 75) (t := 0) (n := 120) hΓ rfl (Or.inl ⟨rfl, rfl⟩) ga_int kd_75 (by decide) (fun _ => rfl) ⟨by decide, by decide⟩ dX6_init_23 ?_
  refine c_putR hΓ fl_RX6_18 cl_6 ff_RX6_18 hin kd_72 ⟨by decide, by decide⟩ dX6_init_25 ft_6_4 ?_
  refine a_aload_n hΓ 0 dX6_init_28 rfl rfl ?_
  refine a_bipush hΓ dX6_init_29 (by decide) ?_
  refine a_newa (N := 76) (t := 0) (n := 120) hΓ rfl (Or.inl ⟨rfl, rfl⟩) ga_int kd_76 (by decide) (fun _ => rfl) ⟨by decide, by decide⟩ dX6_init_31 ?_
  refine c_putR hΓ fl_RX6_21 cl_6 ff_RX6_21 hin kd_72 ⟨by decide, by decide⟩ dX6_init_33 ft_6_5 ?_
  refine a_aload_n hΓ 0 dX6_init_36 rfl rfl ?_
  refine a_bipush hΓ dX6_init_37 (by decide) ?_
  refine a_newa (N := 77) (t := 0) (n := 120) hΓ rfl (Or.inl ⟨rfl, rfl⟩) ga_int kd_77 (by decide) (fun _ => rfl) ⟨by decide, by decide⟩ dX6_init_39 ?_
  refine c_putR hΓ fl_RX6_24 cl_6 ff_RX6_24 hin kd_72 ⟨by decide, by decide⟩ dX6_init_41 ft_6_6 ?_
  refine a_aload_n hΓ 0 dX6_init_44 rfl rfl ?_
  refine a_bipush hΓ dX6_init_45 (by decide) ?_
  refine a_newa (N := 78) (t := 1) (n := 120) hΓ rfl (Or.inr (Or.inl ⟨rfl, rfl⟩)) ga_boolean kd_78 (by decide) (fun _ => rfl) ⟨by decide, by decide⟩ dX6_init_47 ?_
  refine c_putR hΓ fl_RX6_27 cl_6 ff_RX6_27 hin kd_72 ⟨by decide, by decide⟩ dX6_init_49 ft_6_7 ?_
  refine a_aload_n hΓ 0 dX6_init_52 rfl rfl ?_
  refine a_bipush hΓ dX6_init_53 (by decide) ?_
  refine a_newa (N := 79) (t := 0) (n := 24) hΓ rfl (Or.inl ⟨rfl, rfl⟩) ga_int kd_79 (by decide) (fun _ => rfl) ⟨by decide, by decide⟩ dX6_init_55 ?_
  refine c_putR hΓ fl_RX6_31 cl_6 ff_RX6_31 hin kd_72 ⟨by decide, by decide⟩ dX6_init_57 ft_6_9 ?_
  refine a_aload_n hΓ 0 dX6_init_60 rfl rfl ?_
  refine a_bipush hΓ dX6_init_61 (by decide) ?_
  refine a_newa (N := 80) (t := 0) (n := 24) hΓ rfl (Or.inl ⟨rfl, rfl⟩) ga_int kd_80 (by decide) (fun _ => rfl) ⟨by decide, by decide⟩ dX6_init_63 ?_
  refine c_putR hΓ fl_RX6_34 cl_6 ff_RX6_34 hin kd_72 ⟨by decide, by decide⟩ dX6_init_65 ft_6_10 ?_
  refine a_aload_n hΓ 0 dX6_init_68 rfl rfl ?_
  refine a_bipush hΓ dX6_init_69 (by decide) ?_
  refine a_newa (N := 81) (t := 0) (n := 120) hΓ rfl (Or.inl ⟨rfl, rfl⟩) ga_int kd_81 (by decide) (fun _ => rfl) ⟨by decide, by decide⟩ dX6_init_71 ?_
  refine c_putR hΓ fl_RX6_37 cl_6 ff_RX6_37 hin kd_72 ⟨by decide, by decide⟩ dX6_init_73 ft_6_11 ?_
  refine a_aload_n hΓ 0 dX6_init_76 rfl rfl ?_
  refine a_bipush hΓ dX6_init_77 (by decide) ?_
  refine a_newa (N := 82) (t := 0) (n := 120) hΓ rfl (Or.inl ⟨rfl, rfl⟩) ga_int kd_82 (by decide) (fun _ => rfl) ⟨by decide, by decide⟩ dX6_init_79 ?_
  refine c_putR hΓ fl_RX6_40 cl_6 ff_RX6_40 hin kd_72 ⟨by decide, by decide⟩ dX6_init_81 ft_6_12 ?_
  refine a_aload_n hΓ 0 dX6_init_84 rfl rfl ?_
  refine a_aload_n hΓ 1 dX6_init_85 rfl rfl ?_
  refine c_putR hΓ fl_RX6_43 cl_6 ff_RX6_43 hin kd_72 ⟨by decide, by decide⟩ dX6_init_86 ft_6_0 ?_
  exact a_vret hΓ hr dX6_init_89 ⟨rfl, rfl⟩
def mz20 : Mm := mz19
def rz20 : Rm := (upR rz19 0 3 (some 72))
def mz21 : Mm := mz20
def rz21 : Rm := (upR (upR (upR rz20 83 2 (some 84)) 83 0 (some 72)) 83 1 (some 20))
set_option maxHeartbeats 8000000 in
set_option maxRecDepth 20000 in
theorem cc_X2_init_83 (l : Launch) (g : Gp) : Ct l g yX2_init cX2_init 2 none 1 1 24 [aR 83, aR 72] (84, rz20, mz20) (fun v Z => v = none ∧ Z = (85, rz21, mz21)) := by
  refine ct_of (by decide) (Nat.le_of_ble_eq_true rfl) (fun Γ hg hl hr hin hΓ => ?_)
  subst hg; subst hl
  have hin : Γ.2.2.2.2.2.2.2.2.1.name = "<init>" := hin
  refine a_aload_n hΓ 0 dX2_init_0 rfl rfl ?_
  refine a_obj hΓ (by decide) ml_RX2_3 go_inst go_code (Nat.le_of_ble_eq_true rfl) dX2_init_1 ?_
  refine a_aload_n hΓ 0 dX2_init_4 rfl rfl ?_
  refine a_bipush hΓ dX2_init_5 (by decide) ?_
  refine a_newa (N := 84) (t := 0) (n := 24) hΓ rfl (Or.inl ⟨rfl, rfl⟩) ga_int kd_84 (by decide) (fun _ => rfl) ⟨by decide, by decide⟩ dX2_init_7 ?_
  refine c_putR hΓ fl_RX2_9 cl_2 ff_RX2_9 hin kd_83 ⟨by decide, by decide⟩ dX2_init_9 ft_2_2 ?_
  refine a_aload_n hΓ 0 dX2_init_12 rfl rfl ?_
  refine a_aload_n hΓ 1 dX2_init_13 rfl rfl ?_
  refine c_putR hΓ fl_RX2_15 cl_2 ff_RX2_15 hin kd_83 ⟨by decide, by decide⟩ dX2_init_14 ft_2_0 ?_
  refine a_aload_n hΓ 0 dX2_init_17 rfl rfl ?_
  refine a_aload_n hΓ 1 dX2_init_18 rfl rfl ?_
  refine c_getR (r := 1) hΓ fl_RX2_19 cl_6 kd_72 ⟨by decide, by decide⟩ dX2_init_19 ft_6_0 rfl ?_
  refine c_getR (r := 15) hΓ fl_RX2_25 cl_0 kd_1 ⟨by decide, by decide⟩ dX2_init_22 ft_0_14 rfl ?_
  refine c_getR (r := 20) hΓ fl_RX2_31 cl_4 kd_15 ⟨by decide, by decide⟩ dX2_init_25 ft_4_5 rfl ?_
  refine c_putR hΓ fl_RX2_36 cl_2 ff_RX2_36 hin kd_83 ⟨by decide, by decide⟩ dX2_init_28 ft_2_1 ?_
  exact a_vret hΓ hr dX2_init_31 ⟨rfl, rfl⟩
def mz22 : Mm := mz21
def rz22 : Rm := (upR rz21 0 4 (some 83))
def mz23 : Mm := mz22
def rz23 : Rm := (upR rz22 85 0 (some 83))
set_option maxHeartbeats 8000000 in
set_option maxRecDepth 20000 in
theorem cc_X1_init_85 (l : Launch) (g : Gp) : Ct l g yX1_init cX1_init 2 none 1 0 0 [aR 85, aR 83] (86, rz22, mz22) (fun v Z => v = none ∧ Z = (86, rz23, mz23)) := by
  refine ct_of (by decide) (Nat.le_of_ble_eq_true rfl) (fun Γ hg hl hr hin hΓ => ?_)
  subst hg; subst hl
  have hin : Γ.2.2.2.2.2.2.2.2.1.name = "<init>" := hin
  refine a_aload_n hΓ 0 dX1_init_0 rfl rfl ?_
  refine a_obj hΓ (by decide) ml_RX1_3 go_inst go_code (Nat.le_of_ble_eq_true rfl) dX1_init_1 ?_
  refine a_aload_n hΓ 0 dX1_init_4 rfl rfl ?_
  refine a_aload_n hΓ 1 dX1_init_5 rfl rfl ?_
  refine c_putR hΓ fl_RX1_9 cl_1 ff_RX1_9 hin kd_85 ⟨by decide, by decide⟩ dX1_init_6 ft_1_0 ?_
  exact a_vret hΓ hr dX1_init_9 ⟨rfl, rfl⟩
def mz24 : Mm := mz23
def rz24 : Rm := (upR rz23 0 5 (some 85))
def mz25 : Mm := mz24
def rz25 : Rm := (upR (upR rz24 86 1 (some 87)) 86 0 (some 83))
set_option maxHeartbeats 8000000 in
set_option maxRecDepth 20000 in
theorem cc_X8_init_86 (l : Launch) (g : Gp) : Ct l g yX8_init cX8_init 2 none 1 1 2000 [aR 86, aR 83] (87, rz24, mz24) (fun v Z => v = none ∧ Z = (88, rz25, mz25)) := by
  refine ct_of (by decide) (Nat.le_of_ble_eq_true rfl) (fun Γ hg hl hr hin hΓ => ?_)
  subst hg; subst hl
  have hin : Γ.2.2.2.2.2.2.2.2.1.name = "<init>" := hin
  refine a_aload_n hΓ 0 dX8_init_0 rfl rfl ?_
  refine a_obj hΓ (by decide) ml_RX8_3 go_inst go_code (Nat.le_of_ble_eq_true rfl) dX8_init_1 ?_
  refine a_aload_n hΓ 0 dX8_init_4 rfl rfl ?_
  refine a_sipush hΓ dX8_init_5 (by decide) ?_
  refine a_newa (N := 87) (t := 0) (n := 2000) hΓ rfl (Or.inl ⟨rfl, rfl⟩) ga_int kd_87 (by decide) (fun _ => rfl) ⟨by decide, by decide⟩ dX8_init_8 ?_
  refine c_putR hΓ fl_RX8_11 cl_8 ff_RX8_11 hin kd_86 ⟨by decide, by decide⟩ dX8_init_10 ft_8_1 ?_
  refine a_aload_n hΓ 0 dX8_init_13 rfl rfl ?_
  refine a_aload_n hΓ 1 dX8_init_14 rfl rfl ?_
  refine c_putR hΓ fl_RX8_15 cl_8 ff_RX8_15 hin kd_86 ⟨by decide, by decide⟩ dX8_init_15 ft_8_0 ?_
  exact a_vret hΓ hr dX8_init_18 ⟨rfl, rfl⟩
def mz26 : Mm := mz25
def rz26 : Rm := (upR rz25 0 6 (some 86))
def mz27 : Mm := (up mz26 88 3 (-1))
def rz27 : Rm := (upR (upR rz26 88 1 (some 89)) 88 0 (some 83))
set_option maxHeartbeats 8000000 in
set_option maxRecDepth 20000 in
theorem cc_X10_init_88 (l : Launch) (g : Gp) : Ct l g yX10_init cX10_init 2 none 1 1 400 [aR 88, aR 83] (89, rz26, mz26) (fun v Z => v = none ∧ Z = (90, rz27, mz27)) := by
  refine ct_of (by decide) (Nat.le_of_ble_eq_true rfl) (fun Γ hg hl hr hin hΓ => ?_)
  subst hg; subst hl
  have hin : Γ.2.2.2.2.2.2.2.2.1.name = "<init>" := hin
  refine a_aload_n hΓ 0 dX10_init_0 rfl rfl ?_
  refine a_obj hΓ (by decide) ml_RX10_3 go_inst go_code (Nat.le_of_ble_eq_true rfl) dX10_init_1 ?_
  refine a_aload_n hΓ 0 dX10_init_4 rfl rfl ?_
  refine a_sipush hΓ dX10_init_5 (by decide) ?_
  refine a_newa (N := 89) (t := 0) (n := 400) hΓ rfl (Or.inl ⟨rfl, rfl⟩) ga_int kd_89 (by decide) (fun _ => rfl) ⟨by decide, by decide⟩ dX10_init_8 ?_
  refine c_putR hΓ fl_RX10_11 cl_10 ff_RX10_11 hin kd_88 ⟨by decide, by decide⟩ dX10_init_10 ft_10_1 ?_
  refine a_aload_n hΓ 0 dX10_init_13 rfl rfl ?_
  refine a_iconst hΓ dX10_init_14 ?_
  refine c_putI (j := 3) hΓ fl_RX10_15 cl_10 nf_10_3 kd_88 ⟨by decide, by decide⟩ dX10_init_15 ft_10_3 rfl ?_
  refine a_aload_n hΓ 0 dX10_init_18 rfl rfl ?_
  refine a_aload_n hΓ 1 dX10_init_19 rfl rfl ?_
  refine c_putR hΓ fl_RX10_19 cl_10 ff_RX10_19 hin kd_88 ⟨by decide, by decide⟩ dX10_init_20 ft_10_0 ?_
  exact a_vret hΓ hr dX10_init_23 ⟨rfl, rfl⟩
def mz28 : Mm := mz27
def rz28 : Rm := (upR rz27 0 7 (some 88))
def mz29 : Mm := mz28
def rz29 : Rm := (upR (upR rz28 91 5 (some 92)) 91 6 (some 93))
set_option maxHeartbeats 8000000 in
set_option maxRecDepth 20000 in
theorem cc_X9_init_91 (l : Launch) (g : Gp) : Ct l g yX9_init cX9_init 1 none 1 2 192 [aR 91] (92, rz28, mz28) (fun v Z => v = none ∧ Z = (94, rz29, mz29)) := by
  refine ct_of (by decide) (Nat.le_of_ble_eq_true rfl) (fun Γ hg hl hr hin hΓ => ?_)
  subst hg; subst hl
  have hin : Γ.2.2.2.2.2.2.2.2.1.name = "<init>" := hin
  refine a_aload_n hΓ 0 dX9_init_0 rfl rfl ?_
  refine a_obj hΓ (by decide) ml_RX9_3 go_inst go_code (Nat.le_of_ble_eq_true rfl) dX9_init_1 ?_
  refine a_aload_n hΓ 0 dX9_init_4 rfl rfl ?_
  refine a_bipush hΓ dX9_init_5 (by decide) ?_
  refine a_newa (N := 92) (t := 0) (n := 96) hΓ rfl (Or.inl ⟨rfl, rfl⟩) ga_int kd_92 (by decide) (fun _ => rfl) ⟨by decide, by decide⟩ dX9_init_7 ?_
  refine c_putR hΓ fl_RX9_11 cl_9 ff_RX9_11 hin kd_91 ⟨by decide, by decide⟩ dX9_init_9 ft_9_5 ?_
  refine a_aload_n hΓ 0 dX9_init_12 rfl rfl ?_
  refine a_bipush hΓ dX9_init_13 (by decide) ?_
  refine a_newa (N := 93) (t := 0) (n := 96) hΓ rfl (Or.inl ⟨rfl, rfl⟩) ga_int kd_93 (by decide) (fun _ => rfl) ⟨by decide, by decide⟩ dX9_init_15 ?_
  refine c_putR hΓ fl_RX9_15 cl_9 ff_RX9_15 hin kd_91 ⟨by decide, by decide⟩ dX9_init_17 ft_9_6 ?_
  exact a_vret hΓ hr dX9_init_20 ⟨rfl, rfl⟩
def mz30 : Mm := mz29
def rz30 : Rm := (upR (upR (upR (upR (upR (upR (upR (upR rz29 90 1 (some 91)) 90 2 (some 94)) 90 3 (some 95)) 90 4 (some 96)) 90 5 (some 97)) 90 6 (some 98)) 90 13 (some 99)) 90 0 (some 72))
set_option maxHeartbeats 8000000 in
set_option maxRecDepth 20000 in
theorem cc_X5_init_90 (l : Launch) (g : Gp) : Ct l g yX5_init cX5_init 2 none 2 9 801 [aR 90, aR 72] (91, rz28, mz28) (fun v Z => v = none ∧ Z = (100, rz30, mz30)) := by
  refine ct_of (by decide) (Nat.le_of_ble_eq_true rfl) (fun Γ hg hl hr hin hΓ => ?_)
  subst hg; subst hl
  have hin : Γ.2.2.2.2.2.2.2.2.1.name = "<init>" := hin
  refine a_aload_n hΓ 0 dX5_init_0 rfl rfl ?_
  refine a_obj hΓ (by decide) ml_RX5_3 go_inst go_code (Nat.le_of_ble_eq_true rfl) dX5_init_1 ?_
  refine a_aload_n hΓ 0 dX5_init_4 rfl rfl ?_
  refine a_new (N := 91) hΓ (show vwCl[9]? = some (RX9, TX9, 7) from rfl) cl_9 kl_RX5_9 ki_9 kn_9 kd_91 (by decide) (fun _ => rfl) (fun _ => rfl) ⟨by decide, by decide⟩ dX5_init_5 ?_
  refine a_dupR hΓ dX5_init_8 ?_
  refine c_Z (Z' := (92, rz28, mz28)) rfl ?_
  refine a_callI (c := 91) (av := []) (st := [aR 91, aR 90]) hΓ (cc_X9_init_91 _ _) my_X9_init ml_RX5_11 rfl ⟨by decide, by decide⟩ rfl (by decide) (by decide) ⟨by decide, by decide⟩ (Nat.le_of_ble_eq_true rfl) rfl dX5_init_9 (fun v Z' hq => ?_)
  obtain ⟨rfl, rfl⟩ := hq
  refine c_k (kc' := 3) (ks' := 199) rfl rfl (94, rz29, mz29) ?_
  refine c_putR hΓ fl_RX5_12 cl_5 ff_RX5_12 hin kd_90 ⟨by decide, by decide⟩ dX5_init_12 ft_5_1 ?_
  refine a_aload_n hΓ 0 dX5_init_15 rfl rfl ?_
  refine a_bipush hΓ dX5_init_16 (by decide) ?_
  refine a_newa (N := 94) (t := 0) (n := 120) hΓ rfl (Or.inl ⟨rfl, rfl⟩) ga_int kd_94 (by decide) (fun _ => rfl) ⟨by decide, by decide⟩ dX5_init_18 ?_
  refine c_putR hΓ fl_RX5_18 cl_5 ff_RX5_18 hin kd_90 ⟨by decide, by decide⟩ dX5_init_20 ft_5_2 ?_
  refine a_aload_n hΓ 0 dX5_init_23 rfl rfl ?_
  refine a_bipush hΓ dX5_init_24 (by decide) ?_
  refine a_newa (N := 95) (t := 0) (n := 120) hΓ rfl (Or.inl ⟨rfl, rfl⟩) ga_int kd_95 (by decide) (fun _ => rfl) ⟨by decide, by decide⟩ dX5_init_26 ?_
  refine c_putR hΓ fl_RX5_22 cl_5 ff_RX5_22 hin kd_90 ⟨by decide, by decide⟩ dX5_init_28 ft_5_3 ?_
  refine a_aload_n hΓ 0 dX5_init_31 rfl rfl ?_
  refine a_bipush hΓ dX5_init_32 (by decide) ?_
  refine a_newa (N := 96) (t := 0) (n := 120) hΓ rfl (Or.inl ⟨rfl, rfl⟩) ga_int kd_96 (by decide) (fun _ => rfl) ⟨by decide, by decide⟩ dX5_init_34 ?_
  refine c_putR hΓ fl_RX5_25 cl_5 ff_RX5_25 hin kd_90 ⟨by decide, by decide⟩ dX5_init_36 ft_5_4 ?_
  refine a_aload_n hΓ 0 dX5_init_39 rfl rfl ?_
  refine a_bipush hΓ dX5_init_40 (by decide) ?_
  refine a_newa (N := 97) (t := 0) (n := 120) hΓ rfl (Or.inl ⟨rfl, rfl⟩) ga_int kd_97 (by decide) (fun _ => rfl) ⟨by decide, by decide⟩ dX5_init_42 ?_
  refine c_putR hΓ fl_RX5_28 cl_5 ff_RX5_28 hin kd_90 ⟨by decide, by decide⟩ dX5_init_44 ft_5_5 ?_
  refine a_aload_n hΓ 0 dX5_init_47 rfl rfl ?_
  refine a_bipush hΓ dX5_init_48 (by decide) ?_
  refine a_newa (N := 98) (t := 0) (n := 120) hΓ rfl (Or.inl ⟨rfl, rfl⟩) ga_int kd_98 (by decide) (fun _ => rfl) ⟨by decide, by decide⟩ dX5_init_50 ?_
  refine c_putR hΓ fl_RX5_31 cl_5 ff_RX5_31 hin kd_90 ⟨by decide, by decide⟩ dX5_init_52 ft_5_6 ?_
  refine a_aload_n hΓ 0 dX5_init_55 rfl rfl ?_
  refine a_iconst hΓ dX5_init_56 ?_
  refine a_newa (N := 99) (t := 0) (n := 2) hΓ rfl (Or.inl ⟨rfl, rfl⟩) ga_int kd_99 (by decide) (fun _ => rfl) ⟨by decide, by decide⟩ dX5_init_57 ?_
  refine c_putR hΓ fl_RX5_34 cl_5 ff_RX5_34 hin kd_90 ⟨by decide, by decide⟩ dX5_init_59 ft_5_13 ?_
  refine a_aload_n hΓ 0 dX5_init_62 rfl rfl ?_
  refine a_aload_n hΓ 1 dX5_init_63 rfl rfl ?_
  refine c_putR hΓ fl_RX5_37 cl_5 ff_RX5_37 hin kd_90 ⟨by decide, by decide⟩ dX5_init_64 ft_5_0 ?_
  exact a_vret hΓ hr dX5_init_67 ⟨rfl, rfl⟩
def mz31 : Mm := mz30
def rz31 : Rm := (upR rz30 0 8 (some 90))
def mz32 : Mm := mz31
def rz32 : Rm := (upR (upR rz31 100 2 (some 101)) 100 0 (some 72))
set_option maxHeartbeats 8000000 in
set_option maxRecDepth 20000 in
theorem cc_X7_init_100 (l : Launch) (g : Gp) : Ct l g yX7_init cX7_init 2 none 1 1 120 [aR 100, aR 72] (101, rz31, mz31) (fun v Z => v = none ∧ Z = (102, rz32, mz32)) := by
  refine ct_of (by decide) (Nat.le_of_ble_eq_true rfl) (fun Γ hg hl hr hin hΓ => ?_)
  subst hg; subst hl
  have hin : Γ.2.2.2.2.2.2.2.2.1.name = "<init>" := hin
  refine a_aload_n hΓ 0 dX7_init_0 rfl rfl ?_
  refine a_obj hΓ (by decide) ml_RX7_3 go_inst go_code (Nat.le_of_ble_eq_true rfl) dX7_init_1 ?_
  refine a_aload_n hΓ 0 dX7_init_4 rfl rfl ?_
  refine a_bipush hΓ dX7_init_5 (by decide) ?_
  refine a_newa (N := 101) (t := 0) (n := 120) hΓ rfl (Or.inl ⟨rfl, rfl⟩) ga_int kd_101 (by decide) (fun _ => rfl) ⟨by decide, by decide⟩ dX7_init_7 ?_
  refine c_putR hΓ fl_RX7_9 cl_7 ff_RX7_9 hin kd_100 ⟨by decide, by decide⟩ dX7_init_9 ft_7_2 ?_
  refine a_aload_n hΓ 0 dX7_init_12 rfl rfl ?_
  refine a_aload_n hΓ 1 dX7_init_13 rfl rfl ?_
  refine c_putR hΓ fl_RX7_15 cl_7 ff_RX7_15 hin kd_100 ⟨by decide, by decide⟩ dX7_init_14 ft_7_0 ?_
  exact a_vret hΓ hr dX7_init_17 ⟨rfl, rfl⟩
def mz33 : Mm := mz32
def rz33 : Rm := (upR rz32 0 9 (some 100))
set_option maxHeartbeats 8000000 in
set_option maxRecDepth 20000 in
theorem cc_X11_init_0 (l : Launch) (g : Gp) : Ct l g yX11_init cX11_init 2 none 3 101 6588 [aR 0] (1, rz0, mz0) (fun v Z => v = none ∧ Z = (102, rz33, mz33)) := by
  refine ct_of (by decide) (Nat.le_of_ble_eq_true rfl) (fun Γ hg hl hr hin hΓ => ?_)
  subst hg; subst hl
  have hin : Γ.2.2.2.2.2.2.2.2.1.name = "<init>" := hin
  refine a_aload_n hΓ 0 dX11_init_0 rfl rfl ?_
  refine a_obj hΓ (by decide) ml_RX11_1 go_inst go_code (Nat.le_of_ble_eq_true rfl) dX11_init_1 ?_
  refine a_aload_n hΓ 0 dX11_init_4 rfl rfl ?_
  refine a_new (N := 1) hΓ (show vwCl[0]? = some (RX0, TX0, 15) from rfl) cl_0 kl_RX11_7 ki_0 kn_0 kd_1 (by decide) (fun _ => rfl) (fun _ => rfl) ⟨by decide, by decide⟩ dX11_init_5 ?_
  refine a_dupR hΓ dX11_init_8 ?_
  refine c_Z (Z' := (2, rz0, mz0)) rfl ?_
  refine a_callI (c := 1) (av := []) (st := [aR 1, aR 0]) hΓ (cc_X0_init_1 _ _) my_X0_init ml_RX11_9 rfl ⟨by decide, by decide⟩ rfl (by decide) (by decide) ⟨by decide, by decide⟩ (Nat.le_of_ble_eq_true rfl) rfl dX11_init_9 (fun v Z' hq => ?_)
  obtain ⟨rfl, rfl⟩ := hq
  refine c_k (kc' := 23) (ks' := 726) rfl rfl (24, rz5, mz5) ?_
  refine c_putR hΓ fl_RX11_10 cl_11 ff_RX11_10 hin kd_0 ⟨by decide, by decide⟩ dX11_init_12 ft_11_0 ?_
  refine a_aload_n hΓ 0 dX11_init_15 rfl rfl ?_
  refine a_iconst hΓ dX11_init_16 ?_
  refine a_newq (N := 24) (n := 2) hΓ rfl kl_RX11_7 na_book kd_24 (by decide) (fun _ => rfl) ⟨by decide, by decide⟩ dX11_init_17 ?_
  refine c_putR hΓ fl_RX11_16 cl_11 ff_RX11_16 hin kd_0 ⟨by decide, by decide⟩ dX11_init_20 ft_11_1 ?_
  refine a_iconst hΓ dX11_init_23 ?_
  refine a_istore_n (ls' := [(1, aI 0), (0, aR 0)]) hΓ dX11_init_24 rfl (by decide) rfl ?_
  refine a_iload_n hΓ 0 dX11_init_25 rfl rfl ?_
  refine a_iconst hΓ dX11_init_26 ?_
  refine a_icmp_ge (tgt := 49) hΓ (inRl (by decide)) (inRl (by decide)) dX11_init_27 (by decide) (fun _ => ?_) (fun c => absurd (by decide) c)
  refine a_aload_n hΓ 1 dX11_init_30 rfl rfl ?_
  refine c_getR (r := 24) hΓ fl_RX11_16 cl_11 kd_0 ⟨by decide, by decide⟩ dX11_init_31 ft_11_1 rfl ?_
  refine a_iload_n hΓ 0 dX11_init_34 rfl rfl ?_
  refine a_new (N := 25) hΓ (show vwCl[0]? = some (RX0, TX0, 15) from rfl) cl_0 kl_RX11_7 ki_0 kn_0 kd_25 (by decide) (fun _ => rfl) (fun _ => rfl) ⟨by decide, by decide⟩ dX11_init_35 ?_
  refine a_dupR hΓ dX11_init_38 ?_
  refine c_Z (Z' := (26, rz6, mz6)) rfl ?_
  refine a_callI (c := 25) (av := []) (st := [aR 25, aI 0, aR 24]) hΓ (cc_X0_init_25 _ _) my_X0_init ml_RX11_9 rfl ⟨by decide, by decide⟩ rfl (by decide) (by decide) ⟨by decide, by decide⟩ (Nat.le_of_ble_eq_true rfl) rfl dX11_init_39 (fun v Z' hq => ?_)
  obtain ⟨rfl, rfl⟩ := hq
  refine c_k (kc' := 47) (ks' := 1454) rfl rfl (48, rz11, mz11) ?_
  refine a_astq hΓ dX11_init_42 kd_24 kd_25 ⟨by decide, by decide⟩ ⟨by decide, by decide⟩ ⟨by decide, by decide⟩ ?_
  refine a_iinc (ls' := [(1, aI 1), (0, aR 0)]) hΓ 0 dX11_init_43 rfl (by decide) rfl ?_
  refine a_goto (tgt := 25) hΓ dX11_init_46 (by decide) ?_
  refine a_iload_n hΓ 0 dX11_init_25 rfl rfl ?_
  refine a_iconst hΓ dX11_init_26 ?_
  refine a_icmp_ge (tgt := 49) hΓ (inRl (by decide)) (inRl (by decide)) dX11_init_27 (by decide) (fun _ => ?_) (fun c => absurd (by decide) c)
  refine a_aload_n hΓ 1 dX11_init_30 rfl rfl ?_
  refine c_getR (r := 24) hΓ fl_RX11_16 cl_11 kd_0 ⟨by decide, by decide⟩ dX11_init_31 ft_11_1 rfl ?_
  refine a_iload_n hΓ 0 dX11_init_34 rfl rfl ?_
  refine a_new (N := 48) hΓ (show vwCl[0]? = some (RX0, TX0, 15) from rfl) cl_0 kl_RX11_7 ki_0 kn_0 kd_48 (by decide) (fun _ => rfl) (fun _ => rfl) ⟨by decide, by decide⟩ dX11_init_35 ?_
  refine a_dupR hΓ dX11_init_38 ?_
  refine c_Z (Z' := (49, rz12, mz12)) rfl ?_
  refine a_callI (c := 48) (av := []) (st := [aR 48, aI 1, aR 24]) hΓ (cc_X0_init_48 _ _) my_X0_init ml_RX11_9 rfl ⟨by decide, by decide⟩ rfl (by decide) (by decide) ⟨by decide, by decide⟩ (Nat.le_of_ble_eq_true rfl) rfl dX11_init_39 (fun v Z' hq => ?_)
  obtain ⟨rfl, rfl⟩ := hq
  refine c_k (kc' := 70) (ks' := 2180) rfl rfl (71, rz17, mz17) ?_
  refine a_astq hΓ dX11_init_42 kd_24 kd_48 ⟨by decide, by decide⟩ ⟨by decide, by decide⟩ ⟨by decide, by decide⟩ ?_
  refine a_iinc (ls' := [(1, aI 2), (0, aR 0)]) hΓ 0 dX11_init_43 rfl (by decide) rfl ?_
  refine a_goto (tgt := 25) hΓ dX11_init_46 (by decide) ?_
  refine a_iload_n hΓ 0 dX11_init_25 rfl rfl ?_
  refine a_iconst hΓ dX11_init_26 ?_
  refine a_icmp_ge (tgt := 49) hΓ (inRl (by decide)) (inRl (by decide)) dX11_init_27 (by decide) (fun c => absurd c (by decide)) (fun _ => ?_)
  refine a_aload_n hΓ 1 dX11_init_49 rfl rfl ?_
  refine a_iconst hΓ dX11_init_50 ?_
  refine a_newa (N := 71) (t := 1) (n := 2) hΓ rfl (Or.inr (Or.inl ⟨rfl, rfl⟩)) ga_boolean kd_71 (by decide) (fun _ => rfl) ⟨by decide, by decide⟩ dX11_init_51 ?_
  refine c_putR hΓ fl_RX11_20 cl_11 ff_RX11_20 hin kd_0 ⟨by decide, by decide⟩ dX11_init_53 ft_11_2 ?_
  refine a_aload_n hΓ 1 dX11_init_56 rfl rfl ?_
  refine a_new (N := 72) hΓ (show vwCl[6]? = some (RX6, TX6, 13) from rfl) cl_6 kl_RX11_24 ki_6 kn_6 kd_72 (by decide) (fun _ => rfl) (fun _ => rfl) ⟨by decide, by decide⟩ dX11_init_57 ?_
  refine a_dupR hΓ dX11_init_60 ?_
  refine a_aload_n hΓ 1 dX11_init_61 rfl rfl ?_
  refine c_getR (r := 1) hΓ fl_RX11_10 cl_11 kd_0 ⟨by decide, by decide⟩ dX11_init_62 ft_11_0 rfl ?_
  refine c_Z (Z' := (73, rz18, mz18)) rfl ?_
  refine a_callI (c := 72) (av := [aR 1]) (st := [aR 72, aR 0]) hΓ (cc_X6_init_72 _ _) my_X6_init ml_RX11_26 rfl ⟨by decide, by decide⟩ rfl (by decide) (by decide) ⟨by decide, by decide⟩ (Nat.le_of_ble_eq_true rfl) rfl dX11_init_65 (fun v Z' hq => ?_)
  obtain ⟨rfl, rfl⟩ := hq
  refine c_k (kc' := 82) (ks' := 3203) rfl rfl (83, rz19, mz19) ?_
  refine c_putR hΓ fl_RX11_29 cl_11 ff_RX11_29 hin kd_0 ⟨by decide, by decide⟩ dX11_init_68 ft_11_3 ?_
  refine a_aload_n hΓ 1 dX11_init_71 rfl rfl ?_
  refine a_new (N := 83) hΓ (show vwCl[2]? = some (RX2, TX2, 5) from rfl) cl_2 kl_RX11_33 ki_2 kn_2 kd_83 (by decide) (fun _ => rfl) (fun _ => rfl) ⟨by decide, by decide⟩ dX11_init_72 ?_
  refine a_dupR hΓ dX11_init_75 ?_
  refine a_aload_n hΓ 1 dX11_init_76 rfl rfl ?_
  refine c_getR (r := 72) hΓ fl_RX11_29 cl_11 kd_0 ⟨by decide, by decide⟩ dX11_init_77 ft_11_3 rfl ?_
  refine c_Z (Z' := (84, rz20, mz20)) rfl ?_
  refine a_callI (c := 83) (av := [aR 72]) (st := [aR 83, aR 0]) hΓ (cc_X2_init_83 _ _) my_X2_init ml_RX11_35 rfl ⟨by decide, by decide⟩ rfl (by decide) (by decide) ⟨by decide, by decide⟩ (Nat.le_of_ble_eq_true rfl) rfl dX11_init_80 (fun v Z' hq => ?_)
  obtain ⟨rfl, rfl⟩ := hq
  refine c_k (kc' := 84) (ks' := 3232) rfl rfl (85, rz21, mz21) ?_
  refine c_putR hΓ fl_RX11_38 cl_11 ff_RX11_38 hin kd_0 ⟨by decide, by decide⟩ dX11_init_83 ft_11_4 ?_
  refine a_aload_n hΓ 1 dX11_init_86 rfl rfl ?_
  refine a_new (N := 85) hΓ (show vwCl[1]? = some (RX1, TX1, 3) from rfl) cl_1 kl_RX11_42 ki_1 kn_1 kd_85 (by decide) (fun _ => rfl) (fun _ => rfl) ⟨by decide, by decide⟩ dX11_init_87 ?_
  refine a_dupR hΓ dX11_init_90 ?_
  refine a_aload_n hΓ 1 dX11_init_91 rfl rfl ?_
  refine c_getR (r := 83) hΓ fl_RX11_38 cl_11 kd_0 ⟨by decide, by decide⟩ dX11_init_92 ft_11_4 rfl ?_
  refine c_Z (Z' := (86, rz22, mz22)) rfl ?_
  refine a_callI (c := 85) (av := [aR 83]) (st := [aR 85, aR 0]) hΓ (cc_X1_init_85 _ _) my_X1_init ml_RX11_44 rfl ⟨by decide, by decide⟩ rfl (by decide) (by decide) ⟨by decide, by decide⟩ (Nat.le_of_ble_eq_true rfl) rfl dX11_init_95 (fun v Z' hq => ?_)
  obtain ⟨rfl, rfl⟩ := hq
  refine c_k (kc' := 85) (ks' := 3235) rfl rfl (86, rz23, mz23) ?_
  refine c_putR hΓ fl_RX11_47 cl_11 ff_RX11_47 hin kd_0 ⟨by decide, by decide⟩ dX11_init_98 ft_11_5 ?_
  refine a_aload_n hΓ 1 dX11_init_101 rfl rfl ?_
  refine a_new (N := 86) hΓ (show vwCl[8]? = some (RX8, TX8, 6) from rfl) cl_8 kl_RX11_51 ki_8 kn_8 kd_86 (by decide) (fun _ => rfl) (fun _ => rfl) ⟨by decide, by decide⟩ dX11_init_102 ?_
  refine a_dupR hΓ dX11_init_105 ?_
  refine a_aload_n hΓ 1 dX11_init_106 rfl rfl ?_
  refine c_getR (r := 83) hΓ fl_RX11_38 cl_11 kd_0 ⟨by decide, by decide⟩ dX11_init_107 ft_11_4 rfl ?_
  refine c_Z (Z' := (87, rz24, mz24)) rfl ?_
  refine a_callI (c := 86) (av := [aR 83]) (st := [aR 86, aR 0]) hΓ (cc_X8_init_86 _ _) my_X8_init ml_RX11_53 rfl ⟨by decide, by decide⟩ rfl (by decide) (by decide) ⟨by decide, by decide⟩ (Nat.le_of_ble_eq_true rfl) rfl dX11_init_110 (fun v Z' hq => ?_)
  obtain ⟨rfl, rfl⟩ := hq
  refine c_k (kc' := 87) (ks' := 5241) rfl rfl (88, rz25, mz25) ?_
  refine c_putR hΓ fl_RX11_54 cl_11 ff_RX11_54 hin kd_0 ⟨by decide, by decide⟩ dX11_init_113 ft_11_6 ?_
  refine a_aload_n hΓ 1 dX11_init_116 rfl rfl ?_
  refine a_new (N := 88) hΓ (show vwCl[10]? = some (RX10, TX10, 9) from rfl) cl_10 kl_RX11_58 ki_10 kn_10 kd_88 (by decide) (fun _ => rfl) (fun _ => rfl) ⟨by decide, by decide⟩ dX11_init_117 ?_
  refine a_dupR hΓ dX11_init_120 ?_
  refine a_aload_n hΓ 1 dX11_init_121 rfl rfl ?_
  refine c_getR (r := 83) hΓ fl_RX11_38 cl_11 kd_0 ⟨by decide, by decide⟩ dX11_init_122 ft_11_4 rfl ?_
  refine c_Z (Z' := (89, rz26, mz26)) rfl ?_
  refine a_callI (c := 88) (av := [aR 83]) (st := [aR 88, aR 0]) hΓ (cc_X10_init_88 _ _) my_X10_init ml_RX11_60 rfl ⟨by decide, by decide⟩ rfl (by decide) (by decide) ⟨by decide, by decide⟩ (Nat.le_of_ble_eq_true rfl) rfl dX11_init_125 (fun v Z' hq => ?_)
  obtain ⟨rfl, rfl⟩ := hq
  refine c_k (kc' := 89) (ks' := 5650) rfl rfl (90, rz27, mz27) ?_
  refine c_putR hΓ fl_RX11_61 cl_11 ff_RX11_61 hin kd_0 ⟨by decide, by decide⟩ dX11_init_128 ft_11_7 ?_
  refine a_aload_n hΓ 1 dX11_init_131 rfl rfl ?_
  refine a_new (N := 90) hΓ (show vwCl[5]? = some (RX5, TX5, 14) from rfl) cl_5 kl_RX11_65 ki_5 kn_5 kd_90 (by decide) (fun _ => rfl) (fun _ => rfl) ⟨by decide, by decide⟩ dX11_init_132 ?_
  refine a_dupR hΓ dX11_init_135 ?_
  refine a_aload_n hΓ 1 dX11_init_136 rfl rfl ?_
  refine c_getR (r := 72) hΓ fl_RX11_29 cl_11 kd_0 ⟨by decide, by decide⟩ dX11_init_137 ft_11_3 rfl ?_
  refine c_Z (Z' := (91, rz28, mz28)) rfl ?_
  refine a_callI (c := 90) (av := [aR 72]) (st := [aR 90, aR 0]) hΓ (cc_X5_init_90 _ _) my_X5_init ml_RX11_67 rfl ⟨by decide, by decide⟩ rfl (by decide) (by decide) ⟨by decide, by decide⟩ (Nat.le_of_ble_eq_true rfl) rfl dX11_init_140 (fun v Z' hq => ?_)
  obtain ⟨rfl, rfl⟩ := hq
  refine c_k (kc' := 99) (ks' := 6465) rfl rfl (100, rz30, mz30) ?_
  refine c_putR hΓ fl_RX11_68 cl_11 ff_RX11_68 hin kd_0 ⟨by decide, by decide⟩ dX11_init_143 ft_11_8 ?_
  refine a_aload_n hΓ 1 dX11_init_146 rfl rfl ?_
  refine a_new (N := 100) hΓ (show vwCl[7]? = some (RX7, TX7, 3) from rfl) cl_7 kl_RX11_72 ki_7 kn_7 kd_100 (by decide) (fun _ => rfl) (fun _ => rfl) ⟨by decide, by decide⟩ dX11_init_147 ?_
  refine a_dupR hΓ dX11_init_150 ?_
  refine a_aload_n hΓ 1 dX11_init_151 rfl rfl ?_
  refine c_getR (r := 72) hΓ fl_RX11_29 cl_11 kd_0 ⟨by decide, by decide⟩ dX11_init_152 ft_11_3 rfl ?_
  refine c_Z (Z' := (101, rz31, mz31)) rfl ?_
  refine a_callI (c := 100) (av := [aR 72]) (st := [aR 100, aR 0]) hΓ (cc_X7_init_100 _ _) my_X7_init ml_RX11_74 rfl ⟨by decide, by decide⟩ rfl (by decide) (by decide) ⟨by decide, by decide⟩ (Nat.le_of_ble_eq_true rfl) rfl dX11_init_155 (fun v Z' hq => ?_)
  obtain ⟨rfl, rfl⟩ := hq
  refine c_k (kc' := 101) (ks' := 6588) rfl rfl (102, rz32, mz32) ?_
  refine c_putR hΓ fl_RX11_75 cl_11 ff_RX11_75 hin kd_0 ⟨by decide, by decide⟩ dX11_init_158 ft_11_9 ?_
  exact a_vret hΓ hr dX11_init_161 ⟨rfl, rfl⟩
def mz34 : Mm := (up (up (up (up (up (up (up (up (up (up (up (up (up (up (up (up (up mz33 102 14 (-1)) 102 17 (-1)) 102 29 (-1)) 102 41 (-1)) 103 9 10) 103 10 10) 103 11 10) 103 12 10) 103 13 10) 103 14 10) 103 15 (-10)) 103 16 (-10)) 103 17 (-10)) 103 18 (-10)) 103 719 1) 103 720 100) 103 725 (-1))
def rz34 : Rm := (upR (upR (upR (upR (upR (upR (upR (upR (upR (upR (upR (upR (upR (upR (upR (upR (upR (upR (upR (upR (upR (upR (upR rz33 102 1 (some 103)) 102 2 (some 104)) 102 3 (some 105)) 102 4 (some 106)) 102 5 (some 107)) 102 6 (some 108)) 102 7 (some 109)) 102 10 (some 110)) 102 15 (some 111)) 102 16 (some 112)) 102 20 (some 113)) 102 22 (some 114)) 102 23 (some 115)) 102 24 (some 116)) 102 32 (some 117)) 102 33 (some 118)) 102 34 (some 119)) 102 35 (some 120)) 102 36 (some 121)) 102 37 (some 122)) 102 39 (some 123)) 102 40 (some 124)) 102 46 (some 125))
set_option maxHeartbeats 8000000 in
set_option maxRecDepth 20000 in
theorem cc_X12_init_102 (l : Launch) (g : Gp) : Ct l g yX12_init cX12_init 2 none 1 23 265297 [aR 102] (103, rz33, mz33) (fun v Z => v = none ∧ Z = (126, rz34, mz34)) := by
  refine ct_of (by decide) (Nat.le_of_ble_eq_true rfl) (fun Γ hg hl hr hin hΓ => ?_)
  subst hg; subst hl
  have hin : Γ.2.2.2.2.2.2.2.2.1.name = "<init>" := hin
  refine a_aload_n hΓ 0 dX12_init_0 rfl rfl ?_
  refine a_obj hΓ (by decide) ml_RX12_11 go_inst go_code (Nat.le_of_ble_eq_true rfl) dX12_init_1 ?_
  refine a_aload_n hΓ 0 dX12_init_4 rfl rfl ?_
  refine a_sipush hΓ dX12_init_5 (by decide) ?_
  refine a_newa (N := 103) (t := 0) (n := 730) hΓ rfl (Or.inl ⟨rfl, rfl⟩) ga_int kd_103 (by decide) (fun _ => rfl) ⟨by decide, by decide⟩ dX12_init_8 ?_
  refine c_putR hΓ fl_RX12_17 cl_12 ff_RX12_17 hin kd_102 ⟨by decide, by decide⟩ dX12_init_10 ft_12_1 ?_
  refine a_aload_n hΓ 0 dX12_init_13 rfl rfl ?_
  refine a_sipush hΓ dX12_init_14 (by decide) ?_
  refine a_newa (N := 104) (t := 0) (n := 1460) hΓ rfl (Or.inl ⟨rfl, rfl⟩) ga_int kd_104 (by decide) (fun _ => rfl) ⟨by decide, by decide⟩ dX12_init_17 ?_
  refine c_putR hΓ fl_RX12_21 cl_12 ff_RX12_21 hin kd_102 ⟨by decide, by decide⟩ dX12_init_19 ft_12_2 ?_
  refine a_aload_n hΓ 0 dX12_init_22 rfl rfl ?_
  refine a_iconst hΓ dX12_init_23 ?_
  refine a_newa (N := 105) (t := 1) (n := 2) hΓ rfl (Or.inr (Or.inl ⟨rfl, rfl⟩)) ga_boolean kd_105 (by decide) (fun _ => rfl) ⟨by decide, by decide⟩ dX12_init_24 ?_
  refine c_putR hΓ fl_RX12_24 cl_12 ff_RX12_24 hin kd_102 ⟨by decide, by decide⟩ dX12_init_26 ft_12_3 ?_
  refine a_aload_n hΓ 0 dX12_init_29 rfl rfl ?_
  refine a_bipush hΓ dX12_init_30 (by decide) ?_
  refine a_newa (N := 106) (t := 0) (n := 120) hΓ rfl (Or.inl ⟨rfl, rfl⟩) ga_int kd_106 (by decide) (fun _ => rfl) ⟨by decide, by decide⟩ dX12_init_32 ?_
  refine c_putR hΓ fl_RX12_28 cl_12 ff_RX12_28 hin kd_102 ⟨by decide, by decide⟩ dX12_init_34 ft_12_4 ?_
  refine a_aload_n hΓ 0 dX12_init_37 rfl rfl ?_
  refine a_bipush hΓ dX12_init_38 (by decide) ?_
  refine a_newa (N := 107) (t := 0) (n := 120) hΓ rfl (Or.inl ⟨rfl, rfl⟩) ga_int kd_107 (by decide) (fun _ => rfl) ⟨by decide, by decide⟩ dX12_init_40 ?_
  refine c_putR hΓ fl_RX12_31 cl_12 ff_RX12_31 hin kd_102 ⟨by decide, by decide⟩ dX12_init_42 ft_12_5 ?_
  refine a_aload_n hΓ 0 dX12_init_45 rfl rfl ?_
  refine a_bipush hΓ dX12_init_46 (by decide) ?_
  refine a_newa (N := 108) (t := 0) (n := 120) hΓ rfl (Or.inl ⟨rfl, rfl⟩) ga_int kd_108 (by decide) (fun _ => rfl) ⟨by decide, by decide⟩ dX12_init_48 ?_
  refine c_putR hΓ fl_RX12_34 cl_12 ff_RX12_34 hin kd_102 ⟨by decide, by decide⟩ dX12_init_50 ft_12_6 ?_
  refine a_aload_n hΓ 0 dX12_init_53 rfl rfl ?_
  refine a_bipush hΓ dX12_init_54 (by decide) ?_
  refine a_newa (N := 109) (t := 0) (n := 120) hΓ rfl (Or.inl ⟨rfl, rfl⟩) ga_int kd_109 (by decide) (fun _ => rfl) ⟨by decide, by decide⟩ dX12_init_56 ?_
  refine c_putR hΓ fl_RX12_37 cl_12 ff_RX12_37 hin kd_102 ⟨by decide, by decide⟩ dX12_init_58 ft_12_7 ?_
  refine a_aload_n hΓ 0 dX12_init_61 rfl rfl ?_
  refine a_bipush hΓ dX12_init_62 (by decide) ?_
  refine a_newa (N := 110) (t := 0) (n := 24) hΓ rfl (Or.inl ⟨rfl, rfl⟩) ga_int kd_110 (by decide) (fun _ => rfl) ⟨by decide, by decide⟩ dX12_init_64 ?_
  refine c_putR hΓ fl_RX12_40 cl_12 ff_RX12_40 hin kd_102 ⟨by decide, by decide⟩ dX12_init_66 ft_12_10 ?_
  refine a_aload_n hΓ 0 dX12_init_69 rfl rfl ?_
  refine a_iconst hΓ dX12_init_70 ?_
  refine c_putI (j := 14) hΓ fl_RX12_43 cl_12 nf_12_14 kd_102 ⟨by decide, by decide⟩ dX12_init_71 ft_12_14 rfl ?_
  refine a_aload_n hΓ 0 dX12_init_74 rfl rfl ?_
  refine a_sipush hΓ dX12_init_75 (by decide) ?_
  refine a_newa (N := 111) (t := 2) (n := 2000) hΓ rfl (Or.inr (Or.inr ⟨rfl, rfl⟩)) ga_byte kd_111 (by decide) (fun _ => rfl) ⟨by decide, by decide⟩ dX12_init_78 ?_
  refine c_putR hΓ fl_RX12_46 cl_12 ff_RX12_46 hin kd_102 ⟨by decide, by decide⟩ dX12_init_80 ft_12_15 ?_
  refine a_aload_n hΓ 0 dX12_init_83 rfl rfl ?_
  refine a_sipush hΓ dX12_init_84 (by decide) ?_
  refine a_newa (N := 112) (t := 2) (n := 2000) hΓ rfl (Or.inr (Or.inr ⟨rfl, rfl⟩)) ga_byte kd_112 (by decide) (fun _ => rfl) ⟨by decide, by decide⟩ dX12_init_87 ?_
  refine c_putR hΓ fl_RX12_50 cl_12 ff_RX12_50 hin kd_102 ⟨by decide, by decide⟩ dX12_init_89 ft_12_16 ?_
  refine a_aload_n hΓ 0 dX12_init_92 rfl rfl ?_
  refine a_iconst hΓ dX12_init_93 ?_
  refine c_putI (j := 17) hΓ fl_RX12_53 cl_12 nf_12_17 kd_102 ⟨by decide, by decide⟩ dX12_init_94 ft_12_17 rfl ?_
  refine a_aload_n hΓ 0 dX12_init_97 rfl rfl ?_
  refine a_bipush hΓ dX12_init_98 (by decide) ?_
  refine a_newa (N := 113) (t := 0) (n := 24) hΓ rfl (Or.inl ⟨rfl, rfl⟩) ga_int kd_113 (by decide) (fun _ => rfl) ⟨by decide, by decide⟩ dX12_init_100 ?_
  refine c_putR hΓ fl_RX12_56 cl_12 ff_RX12_56 hin kd_102 ⟨by decide, by decide⟩ dX12_init_102 ft_12_20 ?_
  refine a_aload_n hΓ 0 dX12_init_105 rfl rfl ?_
  refine a_sipush hΓ dX12_init_106 (by decide) ?_
  refine a_newa (N := 114) (t := 2) (n := 400) hΓ rfl (Or.inr (Or.inr ⟨rfl, rfl⟩)) ga_byte kd_114 (by decide) (fun _ => rfl) ⟨by decide, by decide⟩ dX12_init_109 ?_
  refine c_putR hΓ fl_RX12_59 cl_12 ff_RX12_59 hin kd_102 ⟨by decide, by decide⟩ dX12_init_111 ft_12_22 ?_
  refine a_aload_n hΓ 0 dX12_init_114 rfl rfl ?_
  refine a_sipush hΓ dX12_init_115 (by decide) ?_
  refine a_newa (N := 115) (t := 2) (n := 400) hΓ rfl (Or.inr (Or.inr ⟨rfl, rfl⟩)) ga_byte kd_115 (by decide) (fun _ => rfl) ⟨by decide, by decide⟩ dX12_init_118 ?_
  refine c_putR hΓ fl_RX12_62 cl_12 ff_RX12_62 hin kd_102 ⟨by decide, by decide⟩ dX12_init_120 ft_12_23 ?_
  refine a_aload_n hΓ 0 dX12_init_123 rfl rfl ?_
  refine a_iconst hΓ dX12_init_124 ?_
  refine a_newa (N := 116) (t := 0) (n := 5) hΓ rfl (Or.inl ⟨rfl, rfl⟩) ga_int kd_116 (by decide) (fun _ => rfl) ⟨by decide, by decide⟩ dX12_init_125 ?_
  refine c_putR hΓ fl_RX12_65 cl_12 ff_RX12_65 hin kd_102 ⟨by decide, by decide⟩ dX12_init_127 ft_12_24 ?_
  refine a_aload_n hΓ 0 dX12_init_130 rfl rfl ?_
  refine a_iconst hΓ dX12_init_131 ?_
  refine c_putI (j := 29) hΓ fl_RX12_68 cl_12 nf_12_29 kd_102 ⟨by decide, by decide⟩ dX12_init_132 ft_12_29 rfl ?_
  refine a_aload_n hΓ 0 dX12_init_135 rfl rfl ?_
  refine a_ldc hΓ gc_RX12_71 dX12_init_136 ?_
  refine a_newa (N := 117) (t := 0) (n := 120120) hΓ rfl (Or.inl ⟨rfl, rfl⟩) ga_int kd_117 (by decide) (fun _ => rfl) ⟨by decide, by decide⟩ dX12_init_138 ?_
  refine c_putR hΓ fl_RX12_72 cl_12 ff_RX12_72 hin kd_102 ⟨by decide, by decide⟩ dX12_init_140 ft_12_32 ?_
  refine a_aload_n hΓ 0 dX12_init_143 rfl rfl ?_
  refine a_ldc hΓ gc_RX12_71 dX12_init_144 ?_
  refine a_newa (N := 118) (t := 0) (n := 120120) hΓ rfl (Or.inl ⟨rfl, rfl⟩) ga_int kd_118 (by decide) (fun _ => rfl) ⟨by decide, by decide⟩ dX12_init_146 ?_
  refine c_putR hΓ fl_RX12_75 cl_12 ff_RX12_75 hin kd_102 ⟨by decide, by decide⟩ dX12_init_148 ft_12_33 ?_
  refine a_aload_n hΓ 0 dX12_init_151 rfl rfl ?_
  refine a_sipush hΓ dX12_init_152 (by decide) ?_
  refine a_newa (N := 119) (t := 0) (n := 1001) hΓ rfl (Or.inl ⟨rfl, rfl⟩) ga_int kd_119 (by decide) (fun _ => rfl) ⟨by decide, by decide⟩ dX12_init_155 ?_
  refine c_putR hΓ fl_RX12_78 cl_12 ff_RX12_78 hin kd_102 ⟨by decide, by decide⟩ dX12_init_157 ft_12_34 ?_
  refine a_aload_n hΓ 0 dX12_init_160 rfl rfl ?_
  refine a_sipush hΓ dX12_init_161 (by decide) ?_
  refine a_newa (N := 120) (t := 0) (n := 1001) hΓ rfl (Or.inl ⟨rfl, rfl⟩) ga_int kd_120 (by decide) (fun _ => rfl) ⟨by decide, by decide⟩ dX12_init_164 ?_
  refine c_putR hΓ fl_RX12_81 cl_12 ff_RX12_81 hin kd_102 ⟨by decide, by decide⟩ dX12_init_166 ft_12_35 ?_
  refine a_aload_n hΓ 0 dX12_init_169 rfl rfl ?_
  refine a_sipush hΓ dX12_init_170 (by decide) ?_
  refine a_newa (N := 121) (t := 0) (n := 14400) hΓ rfl (Or.inl ⟨rfl, rfl⟩) ga_int kd_121 (by decide) (fun _ => rfl) ⟨by decide, by decide⟩ dX12_init_173 ?_
  refine c_putR hΓ fl_RX12_84 cl_12 ff_RX12_84 hin kd_102 ⟨by decide, by decide⟩ dX12_init_175 ft_12_36 ?_
  refine a_aload_n hΓ 0 dX12_init_178 rfl rfl ?_
  refine a_bipush hΓ dX12_init_179 (by decide) ?_
  refine a_newa (N := 122) (t := 0) (n := 120) hΓ rfl (Or.inl ⟨rfl, rfl⟩) ga_int kd_122 (by decide) (fun _ => rfl) ⟨by decide, by decide⟩ dX12_init_181 ?_
  refine c_putR hΓ fl_RX12_87 cl_12 ff_RX12_87 hin kd_102 ⟨by decide, by decide⟩ dX12_init_183 ft_12_37 ?_
  refine a_aload_n hΓ 0 dX12_init_186 rfl rfl ?_
  refine a_sipush hΓ dX12_init_187 (by decide) ?_
  refine a_newa (N := 123) (t := 0) (n := 1001) hΓ rfl (Or.inl ⟨rfl, rfl⟩) ga_int kd_123 (by decide) (fun _ => rfl) ⟨by decide, by decide⟩ dX12_init_190 ?_
  refine c_putR hΓ fl_RX12_90 cl_12 ff_RX12_90 hin kd_102 ⟨by decide, by decide⟩ dX12_init_192 ft_12_39 ?_
  refine a_aload_n hΓ 0 dX12_init_195 rfl rfl ?_
  refine a_iconst hΓ dX12_init_196 ?_
  refine a_newa (N := 124) (t := 0) (n := 2) hΓ rfl (Or.inl ⟨rfl, rfl⟩) ga_int kd_124 (by decide) (fun _ => rfl) ⟨by decide, by decide⟩ dX12_init_197 ?_
  refine c_putR hΓ fl_RX12_93 cl_12 ff_RX12_93 hin kd_102 ⟨by decide, by decide⟩ dX12_init_199 ft_12_40 ?_
  refine a_aload_n hΓ 0 dX12_init_202 rfl rfl ?_
  refine a_iconst hΓ dX12_init_203 ?_
  refine c_putI (j := 41) hΓ fl_RX12_96 cl_12 nf_12_41 kd_102 ⟨by decide, by decide⟩ dX12_init_204 ft_12_41 rfl ?_
  refine a_aload_n hΓ 0 dX12_init_207 rfl rfl ?_
  refine a_bipush hΓ dX12_init_208 (by decide) ?_
  refine a_newa (N := 125) (t := 0) (n := 7) hΓ rfl (Or.inl ⟨rfl, rfl⟩) ga_int kd_125 (by decide) (fun _ => rfl) ⟨by decide, by decide⟩ dX12_init_210 ?_
  refine c_putR hΓ fl_RX12_99 cl_12 ff_RX12_99 hin kd_102 ⟨by decide, by decide⟩ dX12_init_212 ft_12_46 ?_
  refine a_iconst hΓ dX12_init_215 ?_
  refine a_istore_n (ls' := [(1, aI 0), (0, aR 102)]) hΓ dX12_init_216 rfl (by decide) rfl ?_
  refine a_iload_n hΓ 0 dX12_init_217 rfl rfl ?_
  refine a_bipush hΓ dX12_init_218 (by decide) ?_
  refine a_icmp_ge (tgt := 240) hΓ (inRl (by decide)) (inRl (by decide)) dX12_init_220 (by decide) (fun _ => ?_) (fun c => absurd (by decide) c)
  refine a_aload_n hΓ 1 dX12_init_223 rfl rfl ?_
  refine c_getR (r := 103) hΓ fl_RX12_17 cl_12 kd_102 ⟨by decide, by decide⟩ dX12_init_224 ft_12_1 rfl ?_
  refine a_bipush hΓ dX12_init_227 (by decide) ?_
  refine a_iload_n hΓ 0 dX12_init_229 rfl rfl ?_
  refine a_iadd hΓ dX12_init_230 ?_
  refine a_bipush hΓ dX12_init_231 (by decide) ?_
  refine a_iast hΓ dX12_init_233 kd_103 ⟨by decide, by decide⟩ ⟨by decide, by decide⟩ ?_
  refine a_iinc (ls' := [(1, aI 1), (0, aR 102)]) hΓ 0 dX12_init_234 rfl (by decide) rfl ?_
  refine a_goto (tgt := 217) hΓ dX12_init_237 (by decide) ?_
  refine a_iload_n hΓ 0 dX12_init_217 rfl rfl ?_
  refine a_bipush hΓ dX12_init_218 (by decide) ?_
  refine a_icmp_ge (tgt := 240) hΓ (inRl (by decide)) (inRl (by decide)) dX12_init_220 (by decide) (fun _ => ?_) (fun c => absurd (by decide) c)
  refine a_aload_n hΓ 1 dX12_init_223 rfl rfl ?_
  refine c_getR (r := 103) hΓ fl_RX12_17 cl_12 kd_102 ⟨by decide, by decide⟩ dX12_init_224 ft_12_1 rfl ?_
  refine a_bipush hΓ dX12_init_227 (by decide) ?_
  refine a_iload_n hΓ 0 dX12_init_229 rfl rfl ?_
  refine a_iadd hΓ dX12_init_230 ?_
  refine a_bipush hΓ dX12_init_231 (by decide) ?_
  refine a_iast hΓ dX12_init_233 kd_103 ⟨by decide, by decide⟩ ⟨by decide, by decide⟩ ?_
  refine a_iinc (ls' := [(1, aI 2), (0, aR 102)]) hΓ 0 dX12_init_234 rfl (by decide) rfl ?_
  refine a_goto (tgt := 217) hΓ dX12_init_237 (by decide) ?_
  refine a_iload_n hΓ 0 dX12_init_217 rfl rfl ?_
  refine a_bipush hΓ dX12_init_218 (by decide) ?_
  refine a_icmp_ge (tgt := 240) hΓ (inRl (by decide)) (inRl (by decide)) dX12_init_220 (by decide) (fun _ => ?_) (fun c => absurd (by decide) c)
  refine a_aload_n hΓ 1 dX12_init_223 rfl rfl ?_
  refine c_getR (r := 103) hΓ fl_RX12_17 cl_12 kd_102 ⟨by decide, by decide⟩ dX12_init_224 ft_12_1 rfl ?_
  refine a_bipush hΓ dX12_init_227 (by decide) ?_
  refine a_iload_n hΓ 0 dX12_init_229 rfl rfl ?_
  refine a_iadd hΓ dX12_init_230 ?_
  refine a_bipush hΓ dX12_init_231 (by decide) ?_
  refine a_iast hΓ dX12_init_233 kd_103 ⟨by decide, by decide⟩ ⟨by decide, by decide⟩ ?_
  refine a_iinc (ls' := [(1, aI 3), (0, aR 102)]) hΓ 0 dX12_init_234 rfl (by decide) rfl ?_
  refine a_goto (tgt := 217) hΓ dX12_init_237 (by decide) ?_
  refine a_iload_n hΓ 0 dX12_init_217 rfl rfl ?_
  refine a_bipush hΓ dX12_init_218 (by decide) ?_
  refine a_icmp_ge (tgt := 240) hΓ (inRl (by decide)) (inRl (by decide)) dX12_init_220 (by decide) (fun _ => ?_) (fun c => absurd (by decide) c)
  refine a_aload_n hΓ 1 dX12_init_223 rfl rfl ?_
  refine c_getR (r := 103) hΓ fl_RX12_17 cl_12 kd_102 ⟨by decide, by decide⟩ dX12_init_224 ft_12_1 rfl ?_
  refine a_bipush hΓ dX12_init_227 (by decide) ?_
  refine a_iload_n hΓ 0 dX12_init_229 rfl rfl ?_
  refine a_iadd hΓ dX12_init_230 ?_
  refine a_bipush hΓ dX12_init_231 (by decide) ?_
  refine a_iast hΓ dX12_init_233 kd_103 ⟨by decide, by decide⟩ ⟨by decide, by decide⟩ ?_
  refine a_iinc (ls' := [(1, aI 4), (0, aR 102)]) hΓ 0 dX12_init_234 rfl (by decide) rfl ?_
  refine a_goto (tgt := 217) hΓ dX12_init_237 (by decide) ?_
  refine a_iload_n hΓ 0 dX12_init_217 rfl rfl ?_
  refine a_bipush hΓ dX12_init_218 (by decide) ?_
  refine a_icmp_ge (tgt := 240) hΓ (inRl (by decide)) (inRl (by decide)) dX12_init_220 (by decide) (fun _ => ?_) (fun c => absurd (by decide) c)
  refine a_aload_n hΓ 1 dX12_init_223 rfl rfl ?_
  refine c_getR (r := 103) hΓ fl_RX12_17 cl_12 kd_102 ⟨by decide, by decide⟩ dX12_init_224 ft_12_1 rfl ?_
  refine a_bipush hΓ dX12_init_227 (by decide) ?_
  refine a_iload_n hΓ 0 dX12_init_229 rfl rfl ?_
  refine a_iadd hΓ dX12_init_230 ?_
  refine a_bipush hΓ dX12_init_231 (by decide) ?_
  refine a_iast hΓ dX12_init_233 kd_103 ⟨by decide, by decide⟩ ⟨by decide, by decide⟩ ?_
  refine a_iinc (ls' := [(1, aI 5), (0, aR 102)]) hΓ 0 dX12_init_234 rfl (by decide) rfl ?_
  refine a_goto (tgt := 217) hΓ dX12_init_237 (by decide) ?_
  refine a_iload_n hΓ 0 dX12_init_217 rfl rfl ?_
  refine a_bipush hΓ dX12_init_218 (by decide) ?_
  refine a_icmp_ge (tgt := 240) hΓ (inRl (by decide)) (inRl (by decide)) dX12_init_220 (by decide) (fun _ => ?_) (fun c => absurd (by decide) c)
  refine a_aload_n hΓ 1 dX12_init_223 rfl rfl ?_
  refine c_getR (r := 103) hΓ fl_RX12_17 cl_12 kd_102 ⟨by decide, by decide⟩ dX12_init_224 ft_12_1 rfl ?_
  refine a_bipush hΓ dX12_init_227 (by decide) ?_
  refine a_iload_n hΓ 0 dX12_init_229 rfl rfl ?_
  refine a_iadd hΓ dX12_init_230 ?_
  refine a_bipush hΓ dX12_init_231 (by decide) ?_
  refine a_iast hΓ dX12_init_233 kd_103 ⟨by decide, by decide⟩ ⟨by decide, by decide⟩ ?_
  refine a_iinc (ls' := [(1, aI 6), (0, aR 102)]) hΓ 0 dX12_init_234 rfl (by decide) rfl ?_
  refine a_goto (tgt := 217) hΓ dX12_init_237 (by decide) ?_
  refine a_iload_n hΓ 0 dX12_init_217 rfl rfl ?_
  refine a_bipush hΓ dX12_init_218 (by decide) ?_
  refine a_icmp_ge (tgt := 240) hΓ (inRl (by decide)) (inRl (by decide)) dX12_init_220 (by decide) (fun c => absurd c (by decide)) (fun _ => ?_)
  refine a_iconst hΓ dX12_init_240 ?_
  refine a_istore_n (ls' := [(1, aI 0), (0, aR 102)]) hΓ dX12_init_241 rfl (by decide) rfl ?_
  refine a_iload_n hΓ 0 dX12_init_242 rfl rfl ?_
  refine a_iconst hΓ dX12_init_243 ?_
  refine a_icmp_ge (tgt := 264) hΓ (inRl (by decide)) (inRl (by decide)) dX12_init_244 (by decide) (fun _ => ?_) (fun c => absurd (by decide) c)
  refine a_aload_n hΓ 1 dX12_init_247 rfl rfl ?_
  refine c_getR (r := 103) hΓ fl_RX12_17 cl_12 kd_102 ⟨by decide, by decide⟩ dX12_init_248 ft_12_1 rfl ?_
  refine a_bipush hΓ dX12_init_251 (by decide) ?_
  refine a_iload_n hΓ 0 dX12_init_253 rfl rfl ?_
  refine a_iadd hΓ dX12_init_254 ?_
  refine a_bipush hΓ dX12_init_255 (by decide) ?_
  refine a_iast hΓ dX12_init_257 kd_103 ⟨by decide, by decide⟩ ⟨by decide, by decide⟩ ?_
  refine a_iinc (ls' := [(1, aI 1), (0, aR 102)]) hΓ 0 dX12_init_258 rfl (by decide) rfl ?_
  refine a_goto (tgt := 242) hΓ dX12_init_261 (by decide) ?_
  refine a_iload_n hΓ 0 dX12_init_242 rfl rfl ?_
  refine a_iconst hΓ dX12_init_243 ?_
  refine a_icmp_ge (tgt := 264) hΓ (inRl (by decide)) (inRl (by decide)) dX12_init_244 (by decide) (fun _ => ?_) (fun c => absurd (by decide) c)
  refine a_aload_n hΓ 1 dX12_init_247 rfl rfl ?_
  refine c_getR (r := 103) hΓ fl_RX12_17 cl_12 kd_102 ⟨by decide, by decide⟩ dX12_init_248 ft_12_1 rfl ?_
  refine a_bipush hΓ dX12_init_251 (by decide) ?_
  refine a_iload_n hΓ 0 dX12_init_253 rfl rfl ?_
  refine a_iadd hΓ dX12_init_254 ?_
  refine a_bipush hΓ dX12_init_255 (by decide) ?_
  refine a_iast hΓ dX12_init_257 kd_103 ⟨by decide, by decide⟩ ⟨by decide, by decide⟩ ?_
  refine a_iinc (ls' := [(1, aI 2), (0, aR 102)]) hΓ 0 dX12_init_258 rfl (by decide) rfl ?_
  refine a_goto (tgt := 242) hΓ dX12_init_261 (by decide) ?_
  refine a_iload_n hΓ 0 dX12_init_242 rfl rfl ?_
  refine a_iconst hΓ dX12_init_243 ?_
  refine a_icmp_ge (tgt := 264) hΓ (inRl (by decide)) (inRl (by decide)) dX12_init_244 (by decide) (fun _ => ?_) (fun c => absurd (by decide) c)
  refine a_aload_n hΓ 1 dX12_init_247 rfl rfl ?_
  refine c_getR (r := 103) hΓ fl_RX12_17 cl_12 kd_102 ⟨by decide, by decide⟩ dX12_init_248 ft_12_1 rfl ?_
  refine a_bipush hΓ dX12_init_251 (by decide) ?_
  refine a_iload_n hΓ 0 dX12_init_253 rfl rfl ?_
  refine a_iadd hΓ dX12_init_254 ?_
  refine a_bipush hΓ dX12_init_255 (by decide) ?_
  refine a_iast hΓ dX12_init_257 kd_103 ⟨by decide, by decide⟩ ⟨by decide, by decide⟩ ?_
  refine a_iinc (ls' := [(1, aI 3), (0, aR 102)]) hΓ 0 dX12_init_258 rfl (by decide) rfl ?_
  refine a_goto (tgt := 242) hΓ dX12_init_261 (by decide) ?_
  refine a_iload_n hΓ 0 dX12_init_242 rfl rfl ?_
  refine a_iconst hΓ dX12_init_243 ?_
  refine a_icmp_ge (tgt := 264) hΓ (inRl (by decide)) (inRl (by decide)) dX12_init_244 (by decide) (fun _ => ?_) (fun c => absurd (by decide) c)
  refine a_aload_n hΓ 1 dX12_init_247 rfl rfl ?_
  refine c_getR (r := 103) hΓ fl_RX12_17 cl_12 kd_102 ⟨by decide, by decide⟩ dX12_init_248 ft_12_1 rfl ?_
  refine a_bipush hΓ dX12_init_251 (by decide) ?_
  refine a_iload_n hΓ 0 dX12_init_253 rfl rfl ?_
  refine a_iadd hΓ dX12_init_254 ?_
  refine a_bipush hΓ dX12_init_255 (by decide) ?_
  refine a_iast hΓ dX12_init_257 kd_103 ⟨by decide, by decide⟩ ⟨by decide, by decide⟩ ?_
  refine a_iinc (ls' := [(1, aI 4), (0, aR 102)]) hΓ 0 dX12_init_258 rfl (by decide) rfl ?_
  refine a_goto (tgt := 242) hΓ dX12_init_261 (by decide) ?_
  refine a_iload_n hΓ 0 dX12_init_242 rfl rfl ?_
  refine a_iconst hΓ dX12_init_243 ?_
  refine a_icmp_ge (tgt := 264) hΓ (inRl (by decide)) (inRl (by decide)) dX12_init_244 (by decide) (fun c => absurd c (by decide)) (fun _ => ?_)
  refine a_aload_n hΓ 1 dX12_init_264 rfl rfl ?_
  refine c_getR (r := 103) hΓ fl_RX12_17 cl_12 kd_102 ⟨by decide, by decide⟩ dX12_init_265 ft_12_1 rfl ?_
  refine a_sipush hΓ dX12_init_268 (by decide) ?_
  refine a_iconst hΓ dX12_init_271 ?_
  refine a_iast hΓ dX12_init_272 kd_103 ⟨by decide, by decide⟩ ⟨by decide, by decide⟩ ?_
  refine a_aload_n hΓ 1 dX12_init_273 rfl rfl ?_
  refine c_getR (r := 103) hΓ fl_RX12_17 cl_12 kd_102 ⟨by decide, by decide⟩ dX12_init_274 ft_12_1 rfl ?_
  refine a_sipush hΓ dX12_init_277 (by decide) ?_
  refine a_bipush hΓ dX12_init_280 (by decide) ?_
  refine a_iast hΓ dX12_init_282 kd_103 ⟨by decide, by decide⟩ ⟨by decide, by decide⟩ ?_
  refine a_aload_n hΓ 1 dX12_init_283 rfl rfl ?_
  refine c_getR (r := 103) hΓ fl_RX12_17 cl_12 kd_102 ⟨by decide, by decide⟩ dX12_init_284 ft_12_1 rfl ?_
  refine a_sipush hΓ dX12_init_287 (by decide) ?_
  refine a_iconst hΓ dX12_init_290 ?_
  refine a_iast hΓ dX12_init_291 kd_103 ⟨by decide, by decide⟩ ⟨by decide, by decide⟩ ?_
  exact a_vret hΓ hr dX12_init_292 ⟨rfl, rfl⟩
