/-! ===== printed by tools/links.py: words of the tables ===== -/
theorem tb_1 {w : Cond} (h : w ∈ tables_1_1) : w ∈ tables_1 := List.mem_append_left _ h
theorem gt_1 {w : Cond} (i : Nat) (h : tables_1_1[i]? = some w) (hg : goodWord w = true) : w ∈ GW := List.mem_filter.mpr ⟨List.mem_append_right _ (tb_1 (List.mem_of_getElem? h)), hg⟩
theorem nt_1 {w : Cond} (i : Nat) (h : tables_1_1[i]? = some w) (hg : isNest w = true) : w ∈ NW := List.mem_filter.mpr ⟨List.mem_append_right _ (tb_1 (List.mem_of_getElem? h)), hg⟩
theorem tb_2 {w : Cond} (h : w ∈ tables_1_2) : w ∈ tables_1 := List.mem_append_right _ (List.mem_append_left _ h)
theorem gt_2 {w : Cond} (i : Nat) (h : tables_1_2[i]? = some w) (hg : goodWord w = true) : w ∈ GW := List.mem_filter.mpr ⟨List.mem_append_right _ (tb_2 (List.mem_of_getElem? h)), hg⟩
theorem nt_2 {w : Cond} (i : Nat) (h : tables_1_2[i]? = some w) (hg : isNest w = true) : w ∈ NW := List.mem_filter.mpr ⟨List.mem_append_right _ (tb_2 (List.mem_of_getElem? h)), hg⟩
theorem tb_3 {w : Cond} (h : w ∈ tables_1_3) : w ∈ tables_1 := List.mem_append_right _ (List.mem_append_right _ (List.mem_append_left _ h))
theorem gt_3 {w : Cond} (i : Nat) (h : tables_1_3[i]? = some w) (hg : goodWord w = true) : w ∈ GW := List.mem_filter.mpr ⟨List.mem_append_right _ (tb_3 (List.mem_of_getElem? h)), hg⟩
theorem nt_3 {w : Cond} (i : Nat) (h : tables_1_3[i]? = some w) (hg : isNest w = true) : w ∈ NW := List.mem_filter.mpr ⟨List.mem_append_right _ (tb_3 (List.mem_of_getElem? h)), hg⟩
theorem tb_4 {w : Cond} (h : w ∈ tables_1_4) : w ∈ tables_1 := List.mem_append_right _ (List.mem_append_right _ (List.mem_append_right _ (List.mem_append_left _ h)))
theorem gt_4 {w : Cond} (i : Nat) (h : tables_1_4[i]? = some w) (hg : goodWord w = true) : w ∈ GW := List.mem_filter.mpr ⟨List.mem_append_right _ (tb_4 (List.mem_of_getElem? h)), hg⟩
theorem nt_4 {w : Cond} (i : Nat) (h : tables_1_4[i]? = some w) (hg : isNest w = true) : w ∈ NW := List.mem_filter.mpr ⟨List.mem_append_right _ (tb_4 (List.mem_of_getElem? h)), hg⟩
theorem tb_5 {w : Cond} (h : w ∈ tables_1_5) : w ∈ tables_1 := List.mem_append_right _ (List.mem_append_right _ (List.mem_append_right _ (List.mem_append_right _ (List.mem_append_left _ h))))
theorem gt_5 {w : Cond} (i : Nat) (h : tables_1_5[i]? = some w) (hg : goodWord w = true) : w ∈ GW := List.mem_filter.mpr ⟨List.mem_append_right _ (tb_5 (List.mem_of_getElem? h)), hg⟩
theorem nt_5 {w : Cond} (i : Nat) (h : tables_1_5[i]? = some w) (hg : isNest w = true) : w ∈ NW := List.mem_filter.mpr ⟨List.mem_append_right _ (tb_5 (List.mem_of_getElem? h)), hg⟩
theorem tb_6 {w : Cond} (h : w ∈ tables_1_6) : w ∈ tables_1 := List.mem_append_right _ (List.mem_append_right _ (List.mem_append_right _ (List.mem_append_right _ (List.mem_append_right _ (List.mem_append_left _ h)))))
theorem gt_6 {w : Cond} (i : Nat) (h : tables_1_6[i]? = some w) (hg : goodWord w = true) : w ∈ GW := List.mem_filter.mpr ⟨List.mem_append_right _ (tb_6 (List.mem_of_getElem? h)), hg⟩
theorem nt_6 {w : Cond} (i : Nat) (h : tables_1_6[i]? = some w) (hg : isNest w = true) : w ∈ NW := List.mem_filter.mpr ⟨List.mem_append_right _ (tb_6 (List.mem_of_getElem? h)), hg⟩
theorem tb_7 {w : Cond} (h : w ∈ tables_1_7) : w ∈ tables_1 := List.mem_append_right _ (List.mem_append_right _ (List.mem_append_right _ (List.mem_append_right _ (List.mem_append_right _ (List.mem_append_right _ (h))))))
theorem gt_7 {w : Cond} (i : Nat) (h : tables_1_7[i]? = some w) (hg : goodWord w = true) : w ∈ GW := List.mem_filter.mpr ⟨List.mem_append_right _ (tb_7 (List.mem_of_getElem? h)), hg⟩
theorem nt_7 {w : Cond} (i : Nat) (h : tables_1_7[i]? = some w) (hg : isNest w = true) : w ∈ NW := List.mem_filter.mpr ⟨List.mem_append_right _ (tb_7 (List.mem_of_getElem? h)), hg⟩
theorem pv_1 {q : MethodName × Nat} (h : q ∈ lw_privs_1) : q ∈ lw_privs := List.mem_append_left _ h
theorem gs_1 {y : MethodName} {n : Nat} (i : Nat) (h : lw_privs_1[i]? = some (y, n)) : Cond.selects y.cls y y ∈ GW := List.mem_filter.mpr ⟨List.mem_append_left _ (List.mem_map.mpr ⟨(y, n), pv_1 (List.mem_of_getElem? h), rfl⟩), rfl⟩
theorem pv_2 {q : MethodName × Nat} (h : q ∈ lw_privs_2) : q ∈ lw_privs := List.mem_append_right _ (List.mem_append_left _ h)
theorem gs_2 {y : MethodName} {n : Nat} (i : Nat) (h : lw_privs_2[i]? = some (y, n)) : Cond.selects y.cls y y ∈ GW := List.mem_filter.mpr ⟨List.mem_append_left _ (List.mem_map.mpr ⟨(y, n), pv_2 (List.mem_of_getElem? h), rfl⟩), rfl⟩
theorem pv_3 {q : MethodName × Nat} (h : q ∈ lw_privs_3) : q ∈ lw_privs := List.mem_append_right _ (List.mem_append_right _ (List.mem_append_left _ h))
theorem gs_3 {y : MethodName} {n : Nat} (i : Nat) (h : lw_privs_3[i]? = some (y, n)) : Cond.selects y.cls y y ∈ GW := List.mem_filter.mpr ⟨List.mem_append_left _ (List.mem_map.mpr ⟨(y, n), pv_3 (List.mem_of_getElem? h), rfl⟩), rfl⟩
theorem pv_4 {q : MethodName × Nat} (h : q ∈ lw_privs_4) : q ∈ lw_privs := List.mem_append_right _ (List.mem_append_right _ (List.mem_append_right _ (List.mem_append_left _ h)))
theorem gs_4 {y : MethodName} {n : Nat} (i : Nat) (h : lw_privs_4[i]? = some (y, n)) : Cond.selects y.cls y y ∈ GW := List.mem_filter.mpr ⟨List.mem_append_left _ (List.mem_map.mpr ⟨(y, n), pv_4 (List.mem_of_getElem? h), rfl⟩), rfl⟩
theorem pv_5 {q : MethodName × Nat} (h : q ∈ lw_privs_5) : q ∈ lw_privs := List.mem_append_right _ (List.mem_append_right _ (List.mem_append_right _ (List.mem_append_right _ (List.mem_append_left _ h))))
theorem gs_5 {y : MethodName} {n : Nat} (i : Nat) (h : lw_privs_5[i]? = some (y, n)) : Cond.selects y.cls y y ∈ GW := List.mem_filter.mpr ⟨List.mem_append_left _ (List.mem_map.mpr ⟨(y, n), pv_5 (List.mem_of_getElem? h), rfl⟩), rfl⟩
theorem pv_6 {q : MethodName × Nat} (h : q ∈ lw_privs_6) : q ∈ lw_privs := List.mem_append_right _ (List.mem_append_right _ (List.mem_append_right _ (List.mem_append_right _ (List.mem_append_right _ (List.mem_append_left _ h)))))
theorem gs_6 {y : MethodName} {n : Nat} (i : Nat) (h : lw_privs_6[i]? = some (y, n)) : Cond.selects y.cls y y ∈ GW := List.mem_filter.mpr ⟨List.mem_append_left _ (List.mem_map.mpr ⟨(y, n), pv_6 (List.mem_of_getElem? h), rfl⟩), rfl⟩
theorem pv_7 {q : MethodName × Nat} (h : q ∈ lw_privs_7) : q ∈ lw_privs := List.mem_append_right _ (List.mem_append_right _ (List.mem_append_right _ (List.mem_append_right _ (List.mem_append_right _ (List.mem_append_right _ (List.mem_append_left _ h))))))
theorem gs_7 {y : MethodName} {n : Nat} (i : Nat) (h : lw_privs_7[i]? = some (y, n)) : Cond.selects y.cls y y ∈ GW := List.mem_filter.mpr ⟨List.mem_append_left _ (List.mem_map.mpr ⟨(y, n), pv_7 (List.mem_of_getElem? h), rfl⟩), rfl⟩
theorem pv_8 {q : MethodName × Nat} (h : q ∈ lw_privs_8) : q ∈ lw_privs := List.mem_append_right _ (List.mem_append_right _ (List.mem_append_right _ (List.mem_append_right _ (List.mem_append_right _ (List.mem_append_right _ (List.mem_append_right _ (List.mem_append_left _ h)))))))
theorem gs_8 {y : MethodName} {n : Nat} (i : Nat) (h : lw_privs_8[i]? = some (y, n)) : Cond.selects y.cls y y ∈ GW := List.mem_filter.mpr ⟨List.mem_append_left _ (List.mem_map.mpr ⟨(y, n), pv_8 (List.mem_of_getElem? h), rfl⟩), rfl⟩
theorem pv_9 {q : MethodName × Nat} (h : q ∈ lw_privs_9) : q ∈ lw_privs := List.mem_append_right _ (List.mem_append_right _ (List.mem_append_right _ (List.mem_append_right _ (List.mem_append_right _ (List.mem_append_right _ (List.mem_append_right _ (List.mem_append_right _ (List.mem_append_left _ h))))))))
theorem gs_9 {y : MethodName} {n : Nat} (i : Nat) (h : lw_privs_9[i]? = some (y, n)) : Cond.selects y.cls y y ∈ GW := List.mem_filter.mpr ⟨List.mem_append_left _ (List.mem_map.mpr ⟨(y, n), pv_9 (List.mem_of_getElem? h), rfl⟩), rfl⟩
theorem pv_10 {q : MethodName × Nat} (h : q ∈ lw_privs_10) : q ∈ lw_privs := List.mem_append_right _ (List.mem_append_right _ (List.mem_append_right _ (List.mem_append_right _ (List.mem_append_right _ (List.mem_append_right _ (List.mem_append_right _ (List.mem_append_right _ (List.mem_append_right _ (h)))))))))
theorem gs_10 {y : MethodName} {n : Nat} (i : Nat) (h : lw_privs_10[i]? = some (y, n)) : Cond.selects y.cls y y ∈ GW := List.mem_filter.mpr ⟨List.mem_append_left _ (List.mem_map.mpr ⟨(y, n), pv_10 (List.mem_of_getElem? h), rfl⟩), rfl⟩
set_option maxRecDepth 100000 in
theorem wl_0 : ∀ k, k < 15 → u_lay RX0 TX0 k ∈ GW := fun k hk => match k, hk with
  | 0, _ => (gt_1 163 rfl rfl)
  | 1, _ => (gt_1 165 rfl rfl)
  | 2, _ => (gt_1 167 rfl rfl)
  | 3, _ => (gt_1 169 rfl rfl)
  | 4, _ => (gt_1 171 rfl rfl)
  | 5, _ => (gt_1 173 rfl rfl)
  | 6, _ => (gt_1 175 rfl rfl)
  | 7, _ => (gt_1 177 rfl rfl)
  | 8, _ => (gt_1 179 rfl rfl)
  | 9, _ => (gt_1 181 rfl rfl)
  | 10, _ => (gt_1 183 rfl rfl)
  | 11, _ => (gt_1 185 rfl rfl)
  | 12, _ => (gt_1 187 rfl rfl)
  | 13, _ => (gt_1 189 rfl rfl)
  | 14, _ => (gt_1 191 rfl rfl)
  | (j + 15), h => absurd h (by omega)
set_option maxRecDepth 100000 in
theorem cl_0 : CLok 0 := ⟨fun w hw => by obtain ⟨k, hk, rfl⟩ := List.mem_map.mp hw; exact wl_0 k (List.mem_range.mp hk), rfl, nmX0, tyX0, tyX0_ok, fun k hk => match k, hk with
  | 0, _ => rfl
  | 1, _ => rfl
  | 2, _ => rfl
  | 3, _ => rfl
  | 4, _ => rfl
  | 5, _ => rfl
  | 6, _ => rfl
  | 7, _ => rfl
  | 8, _ => rfl
  | 9, _ => rfl
  | 10, _ => rfl
  | 11, _ => rfl
  | 12, _ => rfl
  | 13, _ => rfl
  | 14, _ => rfl
  | (j + 15), h => absurd h (by omega)⟩
set_option maxRecDepth 100000 in
theorem wl_1 : ∀ k, k < 3 → u_lay RX1 TX1 k ∈ GW := fun k hk => match k, hk with
  | 0, _ => (gt_2 66 rfl rfl)
  | 1, _ => (gt_2 68 rfl rfl)
  | 2, _ => (gt_2 70 rfl rfl)
  | (j + 3), h => absurd h (by omega)
set_option maxRecDepth 100000 in
theorem cl_1 : CLok 1 := ⟨fun w hw => by obtain ⟨k, hk, rfl⟩ := List.mem_map.mp hw; exact wl_1 k (List.mem_range.mp hk), rfl, nmX1, tyX1, tyX1_ok, fun k hk => match k, hk with
  | 0, _ => rfl
  | 1, _ => rfl
  | 2, _ => rfl
  | (j + 3), h => absurd h (by omega)⟩
set_option maxRecDepth 100000 in
theorem wl_2 : ∀ k, k < 5 → u_lay RX2 TX2 k ∈ GW := fun k hk => match k, hk with
  | 0, _ => (gt_2 45 rfl rfl)
  | 1, _ => (gt_2 47 rfl rfl)
  | 2, _ => (gt_2 49 rfl rfl)
  | 3, _ => (gt_2 51 rfl rfl)
  | 4, _ => (gt_2 53 rfl rfl)
  | (j + 5), h => absurd h (by omega)
set_option maxRecDepth 100000 in
theorem cl_2 : CLok 2 := ⟨fun w hw => by obtain ⟨k, hk, rfl⟩ := List.mem_map.mp hw; exact wl_2 k (List.mem_range.mp hk), rfl, nmX2, tyX2, tyX2_ok, fun k hk => match k, hk with
  | 0, _ => rfl
  | 1, _ => rfl
  | 2, _ => rfl
  | 3, _ => rfl
  | 4, _ => rfl
  | (j + 5), h => absurd h (by omega)⟩
set_option maxRecDepth 100000 in
theorem wl_3 : ∀ k, k < 7 → u_lay RX3 TX3 k ∈ GW := fun k hk => match k, hk with
  | 0, _ => (gt_1 52 rfl rfl)
  | 1, _ => (gt_1 54 rfl rfl)
  | 2, _ => (gt_1 56 rfl rfl)
  | 3, _ => (gt_1 58 rfl rfl)
  | 4, _ => (gt_1 60 rfl rfl)
  | 5, _ => (gt_1 62 rfl rfl)
  | 6, _ => (gt_1 64 rfl rfl)
  | (j + 7), h => absurd h (by omega)
set_option maxRecDepth 100000 in
theorem cl_3 : CLok 3 := ⟨fun w hw => by obtain ⟨k, hk, rfl⟩ := List.mem_map.mp hw; exact wl_3 k (List.mem_range.mp hk), rfl, nmX3, tyX3, tyX3_ok, fun k hk => match k, hk with
  | 0, _ => rfl
  | 1, _ => rfl
  | 2, _ => rfl
  | 3, _ => rfl
  | 4, _ => rfl
  | 5, _ => rfl
  | 6, _ => rfl
  | (j + 7), h => absurd h (by omega)⟩
set_option maxRecDepth 100000 in
theorem wl_4 : ∀ k, k < 9 → u_lay RX4 TX4 k ∈ GW := fun k hk => match k, hk with
  | 0, _ => (gt_1 105 rfl rfl)
  | 1, _ => (gt_1 107 rfl rfl)
  | 2, _ => (gt_1 109 rfl rfl)
  | 3, _ => (gt_1 111 rfl rfl)
  | 4, _ => (gt_1 113 rfl rfl)
  | 5, _ => (gt_1 115 rfl rfl)
  | 6, _ => (gt_1 117 rfl rfl)
  | 7, _ => (gt_1 119 rfl rfl)
  | 8, _ => (gt_1 121 rfl rfl)
  | (j + 9), h => absurd h (by omega)
set_option maxRecDepth 100000 in
theorem cl_4 : CLok 4 := ⟨fun w hw => by obtain ⟨k, hk, rfl⟩ := List.mem_map.mp hw; exact wl_4 k (List.mem_range.mp hk), rfl, nmX4, tyX4, tyX4_ok, fun k hk => match k, hk with
  | 0, _ => rfl
  | 1, _ => rfl
  | 2, _ => rfl
  | 3, _ => rfl
  | 4, _ => rfl
  | 5, _ => rfl
  | 6, _ => rfl
  | 7, _ => rfl
  | 8, _ => rfl
  | (j + 9), h => absurd h (by omega)⟩
set_option maxRecDepth 100000 in
theorem wl_5 : ∀ k, k < 14 → u_lay RX5 TX5 k ∈ GW := fun k hk => match k, hk with
  | 0, _ => (gt_2 190 rfl rfl)
  | 1, _ => (gt_2 192 rfl rfl)
  | 2, _ => (gt_2 194 rfl rfl)
  | 3, _ => (gt_2 196 rfl rfl)
  | 4, _ => (gt_2 198 rfl rfl)
  | 5, _ => (gt_2 200 rfl rfl)
  | 6, _ => (gt_2 202 rfl rfl)
  | 7, _ => (gt_2 204 rfl rfl)
  | 8, _ => (gt_2 206 rfl rfl)
  | 9, _ => (gt_2 208 rfl rfl)
  | 10, _ => (gt_2 210 rfl rfl)
  | 11, _ => (gt_2 212 rfl rfl)
  | 12, _ => (gt_2 214 rfl rfl)
  | 13, _ => (gt_2 216 rfl rfl)
  | (j + 14), h => absurd h (by omega)
set_option maxRecDepth 100000 in
theorem cl_5 : CLok 5 := ⟨fun w hw => by obtain ⟨k, hk, rfl⟩ := List.mem_map.mp hw; exact wl_5 k (List.mem_range.mp hk), rfl, nmX5, tyX5, tyX5_ok, fun k hk => match k, hk with
  | 0, _ => rfl
  | 1, _ => rfl
  | 2, _ => rfl
  | 3, _ => rfl
  | 4, _ => rfl
  | 5, _ => rfl
  | 6, _ => rfl
  | 7, _ => rfl
  | 8, _ => rfl
  | 9, _ => rfl
  | 10, _ => rfl
  | 11, _ => rfl
  | 12, _ => rfl
  | 13, _ => rfl
  | (j + 14), h => absurd h (by omega)⟩
set_option maxRecDepth 100000 in
theorem wl_6 : ∀ k, k < 13 → u_lay RX6 TX6 k ∈ GW := fun k hk => match k, hk with
  | 0, _ => (gt_1 238 rfl rfl)
  | 1, _ => (gt_2 0 rfl rfl)
  | 2, _ => (gt_2 2 rfl rfl)
  | 3, _ => (gt_2 4 rfl rfl)
  | 4, _ => (gt_2 6 rfl rfl)
  | 5, _ => (gt_2 8 rfl rfl)
  | 6, _ => (gt_2 10 rfl rfl)
  | 7, _ => (gt_2 12 rfl rfl)
  | 8, _ => (gt_2 14 rfl rfl)
  | 9, _ => (gt_2 16 rfl rfl)
  | 10, _ => (gt_2 18 rfl rfl)
  | 11, _ => (gt_2 20 rfl rfl)
  | 12, _ => (gt_2 22 rfl rfl)
  | (j + 13), h => absurd h (by omega)
set_option maxRecDepth 100000 in
theorem cl_6 : CLok 6 := ⟨fun w hw => by obtain ⟨k, hk, rfl⟩ := List.mem_map.mp hw; exact wl_6 k (List.mem_range.mp hk), rfl, nmX6, tyX6, tyX6_ok, fun k hk => match k, hk with
  | 0, _ => rfl
  | 1, _ => rfl
  | 2, _ => rfl
  | 3, _ => rfl
  | 4, _ => rfl
  | 5, _ => rfl
  | 6, _ => rfl
  | 7, _ => rfl
  | 8, _ => rfl
  | 9, _ => rfl
  | 10, _ => rfl
  | 11, _ => rfl
  | 12, _ => rfl
  | (j + 13), h => absurd h (by omega)⟩
set_option maxRecDepth 100000 in
theorem wl_7 : ∀ k, k < 3 → u_lay RX7 TX7 k ∈ GW := fun k hk => match k, hk with
  | 0, _ => (gt_2 230 rfl rfl)
  | 1, _ => (gt_2 232 rfl rfl)
  | 2, _ => (gt_2 234 rfl rfl)
  | (j + 3), h => absurd h (by omega)
set_option maxRecDepth 100000 in
theorem cl_7 : CLok 7 := ⟨fun w hw => by obtain ⟨k, hk, rfl⟩ := List.mem_map.mp hw; exact wl_7 k (List.mem_range.mp hk), rfl, nmX7, tyX7, tyX7_ok, fun k hk => match k, hk with
  | 0, _ => rfl
  | 1, _ => rfl
  | 2, _ => rfl
  | (j + 3), h => absurd h (by omega)⟩
set_option maxRecDepth 100000 in
theorem wl_8 : ∀ k, k < 6 → u_lay RX8 TX8 k ∈ GW := fun k hk => match k, hk with
  | 0, _ => (gt_2 87 rfl rfl)
  | 1, _ => (gt_2 89 rfl rfl)
  | 2, _ => (gt_2 91 rfl rfl)
  | 3, _ => (gt_2 93 rfl rfl)
  | 4, _ => (gt_2 95 rfl rfl)
  | 5, _ => (gt_2 97 rfl rfl)
  | (j + 6), h => absurd h (by omega)
set_option maxRecDepth 100000 in
theorem cl_8 : CLok 8 := ⟨fun w hw => by obtain ⟨k, hk, rfl⟩ := List.mem_map.mp hw; exact wl_8 k (List.mem_range.mp hk), rfl, nmX8, tyX8, tyX8_ok, fun k hk => match k, hk with
  | 0, _ => rfl
  | 1, _ => rfl
  | 2, _ => rfl
  | 3, _ => rfl
  | 4, _ => rfl
  | 5, _ => rfl
  | (j + 6), h => absurd h (by omega)⟩
set_option maxRecDepth 100000 in
theorem wl_9 : ∀ k, k < 7 → u_lay RX9 TX9 k ∈ GW := fun k hk => match k, hk with
  | 0, _ => (gt_2 157 rfl rfl)
  | 1, _ => (gt_2 159 rfl rfl)
  | 2, _ => (gt_2 161 rfl rfl)
  | 3, _ => (gt_2 163 rfl rfl)
  | 4, _ => (gt_2 165 rfl rfl)
  | 5, _ => (gt_2 167 rfl rfl)
  | 6, _ => (gt_2 169 rfl rfl)
  | (j + 7), h => absurd h (by omega)
set_option maxRecDepth 100000 in
theorem cl_9 : CLok 9 := ⟨fun w hw => by obtain ⟨k, hk, rfl⟩ := List.mem_map.mp hw; exact wl_9 k (List.mem_range.mp hk), rfl, nmX9, tyX9, tyX9_ok, fun k hk => match k, hk with
  | 0, _ => rfl
  | 1, _ => rfl
  | 2, _ => rfl
  | 3, _ => rfl
  | 4, _ => rfl
  | 5, _ => rfl
  | 6, _ => rfl
  | (j + 7), h => absurd h (by omega)⟩
set_option maxRecDepth 100000 in
theorem wl_10 : ∀ k, k < 9 → u_lay RX10 TX10 k ∈ GW := fun k hk => match k, hk with
  | 0, _ => (gt_2 117 rfl rfl)
  | 1, _ => (gt_2 119 rfl rfl)
  | 2, _ => (gt_2 121 rfl rfl)
  | 3, _ => (gt_2 123 rfl rfl)
  | 4, _ => (gt_2 125 rfl rfl)
  | 5, _ => (gt_2 127 rfl rfl)
  | 6, _ => (gt_2 129 rfl rfl)
  | 7, _ => (gt_2 131 rfl rfl)
  | 8, _ => (gt_2 133 rfl rfl)
  | (j + 9), h => absurd h (by omega)
set_option maxRecDepth 100000 in
theorem cl_10 : CLok 10 := ⟨fun w hw => by obtain ⟨k, hk, rfl⟩ := List.mem_map.mp hw; exact wl_10 k (List.mem_range.mp hk), rfl, nmX10, tyX10, tyX10_ok, fun k hk => match k, hk with
  | 0, _ => rfl
  | 1, _ => rfl
  | 2, _ => rfl
  | 3, _ => rfl
  | 4, _ => rfl
  | 5, _ => rfl
  | 6, _ => rfl
  | 7, _ => rfl
  | 8, _ => rfl
  | (j + 9), h => absurd h (by omega)⟩
set_option maxRecDepth 100000 in
theorem wl_11 : ∀ k, k < 13 → u_lay RX11 TX11 k ∈ GW := fun k hk => match k, hk with
  | 0, _ => (gt_3 10 rfl rfl)
  | 1, _ => (gt_3 12 rfl rfl)
  | 2, _ => (gt_3 14 rfl rfl)
  | 3, _ => (gt_3 16 rfl rfl)
  | 4, _ => (gt_3 18 rfl rfl)
  | 5, _ => (gt_3 20 rfl rfl)
  | 6, _ => (gt_3 22 rfl rfl)
  | 7, _ => (gt_3 24 rfl rfl)
  | 8, _ => (gt_3 26 rfl rfl)
  | 9, _ => (gt_3 28 rfl rfl)
  | 10, _ => (gt_3 30 rfl rfl)
  | 11, _ => (gt_3 32 rfl rfl)
  | 12, _ => (gt_3 34 rfl rfl)
  | (j + 13), h => absurd h (by omega)
set_option maxRecDepth 100000 in
theorem cl_11 : CLok 11 := ⟨fun w hw => by obtain ⟨k, hk, rfl⟩ := List.mem_map.mp hw; exact wl_11 k (List.mem_range.mp hk), rfl, nmX11, tyX11, tyX11_ok, fun k hk => match k, hk with
  | 0, _ => rfl
  | 1, _ => rfl
  | 2, _ => rfl
  | 3, _ => rfl
  | 4, _ => rfl
  | 5, _ => rfl
  | 6, _ => rfl
  | 7, _ => rfl
  | 8, _ => rfl
  | 9, _ => rfl
  | 10, _ => rfl
  | 11, _ => rfl
  | 12, _ => rfl
  | (j + 13), h => absurd h (by omega)⟩
set_option maxRecDepth 100000 in
theorem wl_12 : ∀ k, k < 48 → u_lay RX12 TX12 k ∈ GW := fun k hk => match k, hk with
  | 0, _ => (gt_5 206 rfl rfl)
  | 1, _ => (gt_5 208 rfl rfl)
  | 2, _ => (gt_5 210 rfl rfl)
  | 3, _ => (gt_5 212 rfl rfl)
  | 4, _ => (gt_5 214 rfl rfl)
  | 5, _ => (gt_5 216 rfl rfl)
  | 6, _ => (gt_5 218 rfl rfl)
  | 7, _ => (gt_5 220 rfl rfl)
  | 8, _ => (gt_5 222 rfl rfl)
  | 9, _ => (gt_5 224 rfl rfl)
  | 10, _ => (gt_5 226 rfl rfl)
  | 11, _ => (gt_5 228 rfl rfl)
  | 12, _ => (gt_5 230 rfl rfl)
  | 13, _ => (gt_5 232 rfl rfl)
  | 14, _ => (gt_5 234 rfl rfl)
  | 15, _ => (gt_5 236 rfl rfl)
  | 16, _ => (gt_5 238 rfl rfl)
  | 17, _ => (gt_6 0 rfl rfl)
  | 18, _ => (gt_6 2 rfl rfl)
  | 19, _ => (gt_6 4 rfl rfl)
  | 20, _ => (gt_6 6 rfl rfl)
  | 21, _ => (gt_6 8 rfl rfl)
  | 22, _ => (gt_6 10 rfl rfl)
  | 23, _ => (gt_6 12 rfl rfl)
  | 24, _ => (gt_6 14 rfl rfl)
  | 25, _ => (gt_6 16 rfl rfl)
  | 26, _ => (gt_6 18 rfl rfl)
  | 27, _ => (gt_6 20 rfl rfl)
  | 28, _ => (gt_6 22 rfl rfl)
  | 29, _ => (gt_6 24 rfl rfl)
  | 30, _ => (gt_6 26 rfl rfl)
  | 31, _ => (gt_6 28 rfl rfl)
  | 32, _ => (gt_6 30 rfl rfl)
  | 33, _ => (gt_6 32 rfl rfl)
  | 34, _ => (gt_6 34 rfl rfl)
  | 35, _ => (gt_6 36 rfl rfl)
  | 36, _ => (gt_6 38 rfl rfl)
  | 37, _ => (gt_6 40 rfl rfl)
  | 38, _ => (gt_6 42 rfl rfl)
  | 39, _ => (gt_6 44 rfl rfl)
  | 40, _ => (gt_6 46 rfl rfl)
  | 41, _ => (gt_6 48 rfl rfl)
  | 42, _ => (gt_6 50 rfl rfl)
  | 43, _ => (gt_6 52 rfl rfl)
  | 44, _ => (gt_6 54 rfl rfl)
  | 45, _ => (gt_6 56 rfl rfl)
  | 46, _ => (gt_6 58 rfl rfl)
  | 47, _ => (gt_6 60 rfl rfl)
  | (j + 48), h => absurd h (by omega)
set_option maxRecDepth 100000 in
theorem cl_12 : CLok 12 := ⟨fun w hw => by obtain ⟨k, hk, rfl⟩ := List.mem_map.mp hw; exact wl_12 k (List.mem_range.mp hk), rfl, nmX12, tyX12, tyX12_ok, fun k hk => match k, hk with
  | 0, _ => rfl
  | 1, _ => rfl
  | 2, _ => rfl
  | 3, _ => rfl
  | 4, _ => rfl
  | 5, _ => rfl
  | 6, _ => rfl
  | 7, _ => rfl
  | 8, _ => rfl
  | 9, _ => rfl
  | 10, _ => rfl
  | 11, _ => rfl
  | 12, _ => rfl
  | 13, _ => rfl
  | 14, _ => rfl
  | 15, _ => rfl
  | 16, _ => rfl
  | 17, _ => rfl
  | 18, _ => rfl
  | 19, _ => rfl
  | 20, _ => rfl
  | 21, _ => rfl
  | 22, _ => rfl
  | 23, _ => rfl
  | 24, _ => rfl
  | 25, _ => rfl
  | 26, _ => rfl
  | 27, _ => rfl
  | 28, _ => rfl
  | 29, _ => rfl
  | 30, _ => rfl
  | 31, _ => rfl
  | 32, _ => rfl
  | 33, _ => rfl
  | 34, _ => rfl
  | 35, _ => rfl
  | 36, _ => rfl
  | 37, _ => rfl
  | 38, _ => rfl
  | 39, _ => rfl
  | 40, _ => rfl
  | 41, _ => rfl
  | 42, _ => rfl
  | 43, _ => rfl
  | 44, _ => rfl
  | 45, _ => rfl
  | 46, _ => rfl
  | 47, _ => rfl
  | (j + 48), h => absurd h (by omega)⟩
set_option maxRecDepth 100000 in
theorem fl_RX11_10 : FLok RX11 10 11 0 := ⟨by decide, rfl, Or.inl (gt_2 237 rfl rfl)⟩
set_option maxRecDepth 100000 in
theorem fl_RX11_16 : FLok RX11 16 11 1 := ⟨by decide, rfl, Or.inl (gt_2 238 rfl rfl)⟩
set_option maxRecDepth 100000 in
theorem fl_RX11_20 : FLok RX11 20 11 2 := ⟨by decide, rfl, Or.inl (gt_2 239 rfl rfl)⟩
set_option maxRecDepth 100000 in
theorem fl_RX11_29 : FLok RX11 29 11 3 := ⟨by decide, rfl, Or.inl (gt_3 0 rfl rfl)⟩
set_option maxRecDepth 100000 in
theorem fl_RX11_38 : FLok RX11 38 11 4 := ⟨by decide, rfl, Or.inl (gt_3 1 rfl rfl)⟩
set_option maxRecDepth 100000 in
theorem fl_RX11_47 : FLok RX11 47 11 5 := ⟨by decide, rfl, Or.inl (gt_3 2 rfl rfl)⟩
set_option maxRecDepth 100000 in
theorem fl_RX11_54 : FLok RX11 54 11 6 := ⟨by decide, rfl, Or.inl (gt_3 3 rfl rfl)⟩
set_option maxRecDepth 100000 in
theorem fl_RX11_61 : FLok RX11 61 11 7 := ⟨by decide, rfl, Or.inl (gt_3 4 rfl rfl)⟩
set_option maxRecDepth 100000 in
theorem fl_RX11_68 : FLok RX11 68 11 8 := ⟨by decide, rfl, Or.inl (gt_3 5 rfl rfl)⟩
set_option maxRecDepth 100000 in
theorem fl_RX11_75 : FLok RX11 75 11 9 := ⟨by decide, rfl, Or.inl (gt_3 6 rfl rfl)⟩
set_option maxRecDepth 100000 in
theorem fl_RX11_94 : FLok RX11 94 0 0 := ⟨by decide, rfl, Or.inr ⟨"ShipSkins", (nt_1 125 rfl rfl)⟩⟩
set_option maxRecDepth 100000 in
theorem fl_RX11_98 : FLok RX11 98 0 7 := ⟨by decide, rfl, Or.inr ⟨"ShipSkins", (nt_1 143 rfl rfl)⟩⟩
set_option maxRecDepth 100000 in
theorem fl_RX11_109 : FLok RX11 109 0 13 := ⟨by decide, rfl, Or.inr ⟨"ShipSkins", (nt_1 157 rfl rfl)⟩⟩
set_option maxRecDepth 100000 in
theorem fl_RX11_113 : FLok RX11 113 3 0 := ⟨by decide, rfl, Or.inr ⟨"ShipSkins", (nt_1 39 rfl rfl)⟩⟩
set_option maxRecDepth 100000 in
theorem fl_RX11_126 : FLok RX11 126 0 1 := ⟨by decide, rfl, Or.inr ⟨"ShipSkins", (nt_1 129 rfl rfl)⟩⟩
set_option maxRecDepth 100000 in
theorem fl_RX11_133 : FLok RX11 133 0 2 := ⟨by decide, rfl, Or.inr ⟨"ShipSkins", (nt_1 132 rfl rfl)⟩⟩
set_option maxRecDepth 100000 in
theorem fl_RX11_136 : FLok RX11 136 0 3 := ⟨by decide, rfl, Or.inr ⟨"ShipSkins", (nt_1 135 rfl rfl)⟩⟩
set_option maxRecDepth 100000 in
theorem fl_RX11_143 : FLok RX11 143 6 3 := ⟨by decide, rfl, Or.inr ⟨"ShipSkins", (nt_1 208 rfl rfl)⟩⟩
set_option maxRecDepth 100000 in
theorem fl_RX11_153 : FLok RX11 153 0 14 := ⟨by decide, rfl, Or.inr ⟨"ShipSkins", (nt_1 162 rfl rfl)⟩⟩
set_option maxRecDepth 100000 in
theorem fl_RX11_157 : FLok RX11 157 4 1 := ⟨by decide, rfl, Or.inr ⟨"ShipSkins", (nt_1 80 rfl rfl)⟩⟩
set_option maxRecDepth 100000 in
theorem fl_RX11_162 : FLok RX11 162 4 2 := ⟨by decide, rfl, Or.inr ⟨"ShipSkins", (nt_1 85 rfl rfl)⟩⟩
set_option maxRecDepth 100000 in
theorem fl_RX11_165 : FLok RX11 165 6 9 := ⟨by decide, rfl, Or.inr ⟨"ShipSkins", (nt_1 228 rfl rfl)⟩⟩
set_option maxRecDepth 100000 in
theorem fl_RX11_168 : FLok RX11 168 6 10 := ⟨by decide, rfl, Or.inr ⟨"ShipSkins", (nt_1 232 rfl rfl)⟩⟩
set_option maxRecDepth 100000 in
theorem fl_RX11_171 : FLok RX11 171 4 5 := ⟨by decide, rfl, Or.inr ⟨"ShipSkins", (nt_1 95 rfl rfl)⟩⟩
set_option maxRecDepth 100000 in
theorem fl_RX11_174 : FLok RX11 174 4 6 := ⟨by decide, rfl, Or.inr ⟨"ShipSkins", (nt_1 98 rfl rfl)⟩⟩
set_option maxRecDepth 100000 in
theorem fl_RX11_177 : FLok RX11 177 4 8 := ⟨by decide, rfl, Or.inr ⟨"ShipSkins", (nt_1 104 rfl rfl)⟩⟩
set_option maxRecDepth 100000 in
theorem fl_RX11_180 : FLok RX11 180 6 7 := ⟨by decide, rfl, Or.inr ⟨"ShipSkins", (nt_1 222 rfl rfl)⟩⟩
set_option maxRecDepth 100000 in
theorem fl_RX11_183 : FLok RX11 183 6 4 := ⟨by decide, rfl, Or.inr ⟨"ShipSkins", (nt_1 211 rfl rfl)⟩⟩
set_option maxRecDepth 100000 in
theorem fl_RX11_186 : FLok RX11 186 6 5 := ⟨by decide, rfl, Or.inr ⟨"ShipSkins", (nt_1 215 rfl rfl)⟩⟩
set_option maxRecDepth 100000 in
theorem fl_RX11_239 : FLok RX11 239 1 2 := ⟨by decide, rfl, Or.inr ⟨"ShipSkins", (nt_2 65 rfl rfl)⟩⟩
set_option maxRecDepth 100000 in
theorem fl_RX11_242 : FLok RX11 242 11 11 := ⟨by decide, rfl, Or.inl (gt_3 8 rfl rfl)⟩
set_option maxRecDepth 100000 in
theorem fl_RX11_245 : FLok RX11 245 11 12 := ⟨by decide, rfl, Or.inl (gt_3 9 rfl rfl)⟩
set_option maxRecDepth 100000 in
theorem fl_RX11_255 : FLok RX11 255 8 2 := ⟨by decide, rfl, Or.inr ⟨"ShipSkins", (nt_2 83 rfl rfl)⟩⟩
set_option maxRecDepth 100000 in
theorem fl_RX11_258 : FLok RX11 258 8 1 := ⟨by decide, rfl, Or.inr ⟨"ShipSkins", (nt_2 81 rfl rfl)⟩⟩
set_option maxRecDepth 100000 in
theorem fl_RX11_266 : FLok RX11 266 10 2 := ⟨by decide, rfl, Or.inr ⟨"ShipSkins", (nt_2 109 rfl rfl)⟩⟩
set_option maxRecDepth 100000 in
theorem fl_RX11_270 : FLok RX11 270 10 3 := ⟨by decide, rfl, Or.inr ⟨"ShipSkins", (nt_2 111 rfl rfl)⟩⟩
set_option maxRecDepth 100000 in
theorem fl_RX11_276 : FLok RX11 276 5 7 := ⟨by decide, rfl, Or.inr ⟨"ShipSkins", (nt_2 181 rfl rfl)⟩⟩
set_option maxRecDepth 100000 in
theorem fl_RX11_279 : FLok RX11 279 5 6 := ⟨by decide, rfl, Or.inr ⟨"ShipSkins", (nt_2 179 rfl rfl)⟩⟩
set_option maxRecDepth 100000 in
theorem fl_RX11_285 : FLok RX11 285 5 12 := ⟨by decide, rfl, Or.inr ⟨"ShipSkins", (nt_2 187 rfl rfl)⟩⟩
set_option maxRecDepth 100000 in
theorem fl_RX11_288 : FLok RX11 288 5 13 := ⟨by decide, rfl, Or.inr ⟨"ShipSkins", (nt_2 189 rfl rfl)⟩⟩
set_option maxRecDepth 100000 in
theorem fl_RX11_291 : FLok RX11 291 7 2 := ⟨by decide, rfl, Or.inr ⟨"ShipSkins", (nt_2 229 rfl rfl)⟩⟩
set_option maxRecDepth 100000 in
theorem fl_RX11_294 : FLok RX11 294 7 1 := ⟨by decide, rfl, Or.inr ⟨"ShipSkins", (nt_2 227 rfl rfl)⟩⟩
set_option maxRecDepth 100000 in
theorem fl_RX11_306 : FLok RX11 306 4 0 := ⟨by decide, rfl, Or.inr ⟨"ShipSkins", (nt_1 77 rfl rfl)⟩⟩
set_option maxRecDepth 100000 in
theorem fl_RX11_307 : FLok RX11 307 0 4 := ⟨by decide, rfl, Or.inr ⟨"ShipSkins", (nt_1 137 rfl rfl)⟩⟩
set_option maxRecDepth 100000 in
theorem fl_RX11_314 : FLok RX11 314 0 5 := ⟨by decide, rfl, Or.inr ⟨"ShipSkins", (nt_1 139 rfl rfl)⟩⟩
set_option maxRecDepth 100000 in
theorem fl_RX11_321 : FLok RX11 321 0 6 := ⟨by decide, rfl, Or.inr ⟨"ShipSkins", (nt_1 141 rfl rfl)⟩⟩
set_option maxRecDepth 100000 in
theorem fl_RX11_324 : FLok RX11 324 4 3 := ⟨by decide, rfl, Or.inr ⟨"ShipSkins", (nt_1 88 rfl rfl)⟩⟩
set_option maxRecDepth 100000 in
theorem fl_RX11_330 : FLok RX11 330 11 10 := ⟨by decide, rfl, Or.inl (gt_3 7 rfl rfl)⟩
set_option maxRecDepth 100000 in
theorem fl_RX11_333 : FLok RX11 333 6 8 := ⟨by decide, rfl, Or.inr ⟨"ShipSkins", (nt_1 224 rfl rfl)⟩⟩
set_option maxRecDepth 100000 in
theorem fl_RX11_336 : FLok RX11 336 4 4 := ⟨by decide, rfl, Or.inr ⟨"ShipSkins", (nt_1 91 rfl rfl)⟩⟩
set_option maxRecDepth 100000 in
theorem fl_RX11_339 : FLok RX11 339 4 7 := ⟨by decide, rfl, Or.inr ⟨"ShipSkins", (nt_1 101 rfl rfl)⟩⟩
set_option maxRecDepth 100000 in
theorem fl_RX0_9 : FLok RX0 9 0 2 := ⟨by decide, rfl, Or.inl (gt_1 130 rfl rfl)⟩
set_option maxRecDepth 100000 in
theorem fl_RX0_15 : FLok RX0 15 0 3 := ⟨by decide, rfl, Or.inl (gt_1 133 rfl rfl)⟩
set_option maxRecDepth 100000 in
theorem fl_RX0_18 : FLok RX0 18 0 4 := ⟨by decide, rfl, Or.inl (gt_1 136 rfl rfl)⟩
set_option maxRecDepth 100000 in
theorem fl_RX0_21 : FLok RX0 21 0 7 := ⟨by decide, rfl, Or.inl (gt_1 142 rfl rfl)⟩
set_option maxRecDepth 100000 in
theorem fl_RX0_25 : FLok RX0 25 0 8 := ⟨by decide, rfl, Or.inl (gt_1 145 rfl rfl)⟩
set_option maxRecDepth 100000 in
theorem fl_RX0_28 : FLok RX0 28 0 9 := ⟨by decide, rfl, Or.inl (gt_1 147 rfl rfl)⟩
set_option maxRecDepth 100000 in
theorem fl_RX0_31 : FLok RX0 31 0 10 := ⟨by decide, rfl, Or.inl (gt_1 149 rfl rfl)⟩
set_option maxRecDepth 100000 in
theorem fl_RX0_34 : FLok RX0 34 0 11 := ⟨by decide, rfl, Or.inl (gt_1 151 rfl rfl)⟩
set_option maxRecDepth 100000 in
theorem fl_RX0_37 : FLok RX0 37 0 12 := ⟨by decide, rfl, Or.inl (gt_1 153 rfl rfl)⟩
set_option maxRecDepth 100000 in
theorem fl_RX0_43 : FLok RX0 43 0 13 := ⟨by decide, rfl, Or.inl (gt_1 155 rfl rfl)⟩
set_option maxRecDepth 100000 in
theorem fl_RX0_50 : FLok RX0 50 0 14 := ⟨by decide, rfl, Or.inl (gt_1 159 rfl rfl)⟩
set_option maxRecDepth 100000 in
theorem fl_RX0_54 : FLok RX0 54 0 1 := ⟨by decide, rfl, Or.inl (gt_1 127 rfl rfl)⟩
set_option maxRecDepth 100000 in
theorem fl_RX0_57 : FLok RX0 57 0 0 := ⟨by decide, rfl, Or.inl (gt_1 126 rfl rfl)⟩
set_option maxRecDepth 100000 in
theorem fl_RX0_60 : FLok RX0 60 0 5 := ⟨by decide, rfl, Or.inl (gt_1 138 rfl rfl)⟩
set_option maxRecDepth 100000 in
theorem fl_RX0_64 : FLok RX0 64 0 6 := ⟨by decide, rfl, Or.inl (gt_1 140 rfl rfl)⟩
set_option maxRecDepth 100000 in
theorem fl_RX1_9 : FLok RX1 9 1 0 := ⟨by decide, rfl, Or.inl (gt_2 62 rfl rfl)⟩
set_option maxRecDepth 100000 in
theorem fl_RX1_17 : FLok RX1 17 1 1 := ⟨by decide, rfl, Or.inl (gt_2 63 rfl rfl)⟩
set_option maxRecDepth 100000 in
theorem fl_RX1_21 : FLok RX1 21 1 2 := ⟨by decide, rfl, Or.inl (gt_2 64 rfl rfl)⟩
set_option maxRecDepth 100000 in
theorem fl_RX1_25 : FLok RX1 25 2 4 := ⟨by decide, rfl, Or.inr ⟨"ShipSkins", (nt_2 41 rfl rfl)⟩⟩
set_option maxRecDepth 100000 in
theorem fl_RX1_38 : FLok RX1 38 2 1 := ⟨by decide, rfl, Or.inr ⟨"ShipSkins", (nt_2 34 rfl rfl)⟩⟩
set_option maxRecDepth 100000 in
theorem fl_RX1_54 : FLok RX1 54 2 2 := ⟨by decide, rfl, Or.inr ⟨"ShipSkins", (nt_2 38 rfl rfl)⟩⟩
set_option maxRecDepth 100000 in
theorem fl_RX2_9 : FLok RX2 9 2 2 := ⟨by decide, rfl, Or.inl (gt_2 36 rfl rfl)⟩
set_option maxRecDepth 100000 in
theorem fl_RX2_15 : FLok RX2 15 2 0 := ⟨by decide, rfl, Or.inl (gt_2 31 rfl rfl)⟩
set_option maxRecDepth 100000 in
theorem fl_RX2_19 : FLok RX2 19 6 0 := ⟨by decide, rfl, Or.inr ⟨"ShipSkins", (nt_1 201 rfl rfl)⟩⟩
set_option maxRecDepth 100000 in
theorem fl_RX2_25 : FLok RX2 25 0 14 := ⟨by decide, rfl, Or.inr ⟨"ShipSkins", (nt_1 158 rfl rfl)⟩⟩
set_option maxRecDepth 100000 in
theorem fl_RX2_31 : FLok RX2 31 4 5 := ⟨by decide, rfl, Or.inr ⟨"ShipSkins", (nt_1 92 rfl rfl)⟩⟩
set_option maxRecDepth 100000 in
theorem fl_RX2_36 : FLok RX2 36 2 1 := ⟨by decide, rfl, Or.inl (gt_2 32 rfl rfl)⟩
set_option maxRecDepth 100000 in
theorem fl_RX2_45 : FLok RX2 45 2 3 := ⟨by decide, rfl, Or.inl (gt_2 40 rfl rfl)⟩
set_option maxRecDepth 100000 in
theorem fl_RX2_49 : FLok RX2 49 2 4 := ⟨by decide, rfl, Or.inl (gt_2 43 rfl rfl)⟩
set_option maxRecDepth 100000 in
theorem fl_RX2_59 : FLok RX2 59 4 2 := ⟨by decide, rfl, Or.inr ⟨"ShipSkins", (nt_1 82 rfl rfl)⟩⟩
set_option maxRecDepth 100000 in
theorem fl_RX2_62 : FLok RX2 62 6 9 := ⟨by decide, rfl, Or.inr ⟨"ShipSkins", (nt_1 226 rfl rfl)⟩⟩
set_option maxRecDepth 100000 in
theorem fl_RX2_65 : FLok RX2 65 6 12 := ⟨by decide, rfl, Or.inr ⟨"ShipSkins", (nt_1 236 rfl rfl)⟩⟩
set_option maxRecDepth 100000 in
theorem fl_RX2_68 : FLok RX2 68 6 10 := ⟨by decide, rfl, Or.inr ⟨"ShipSkins", (nt_1 230 rfl rfl)⟩⟩
set_option maxRecDepth 100000 in
theorem fl_RX2_71 : FLok RX2 71 6 11 := ⟨by decide, rfl, Or.inr ⟨"ShipSkins", (nt_1 234 rfl rfl)⟩⟩
set_option maxRecDepth 100000 in
theorem fl_RX3_9 : FLok RX3 9 3 1 := ⟨by decide, rfl, Or.inl (gt_1 40 rfl rfl)⟩
set_option maxRecDepth 100000 in
theorem fl_RX3_15 : FLok RX3 15 3 2 := ⟨by decide, rfl, Or.inl (gt_1 42 rfl rfl)⟩
set_option maxRecDepth 100000 in
theorem fl_RX3_18 : FLok RX3 18 3 3 := ⟨by decide, rfl, Or.inl (gt_1 44 rfl rfl)⟩
set_option maxRecDepth 100000 in
theorem fl_RX3_21 : FLok RX3 21 3 4 := ⟨by decide, rfl, Or.inl (gt_1 46 rfl rfl)⟩
set_option maxRecDepth 100000 in
theorem fl_RX3_24 : FLok RX3 24 3 5 := ⟨by decide, rfl, Or.inl (gt_1 48 rfl rfl)⟩
set_option maxRecDepth 100000 in
theorem fl_RX3_27 : FLok RX3 27 3 6 := ⟨by decide, rfl, Or.inl (gt_1 50 rfl rfl)⟩
set_option maxRecDepth 100000 in
theorem fl_RX3_30 : FLok RX3 30 3 0 := ⟨by decide, rfl, Or.inl (gt_1 37 rfl rfl)⟩
set_option maxRecDepth 100000 in
theorem fl_RX4_9 : FLok RX4 9 4 1 := ⟨by decide, rfl, Or.inl (gt_1 78 rfl rfl)⟩
set_option maxRecDepth 100000 in
theorem fl_RX4_15 : FLok RX4 15 4 2 := ⟨by decide, rfl, Or.inl (gt_1 81 rfl rfl)⟩
set_option maxRecDepth 100000 in
theorem fl_RX4_18 : FLok RX4 18 4 3 := ⟨by decide, rfl, Or.inl (gt_1 86 rfl rfl)⟩
set_option maxRecDepth 100000 in
theorem fl_RX4_21 : FLok RX4 21 4 4 := ⟨by decide, rfl, Or.inl (gt_1 89 rfl rfl)⟩
set_option maxRecDepth 100000 in
theorem fl_RX4_24 : FLok RX4 24 4 5 := ⟨by decide, rfl, Or.inl (gt_1 93 rfl rfl)⟩
set_option maxRecDepth 100000 in
theorem fl_RX4_27 : FLok RX4 27 4 6 := ⟨by decide, rfl, Or.inl (gt_1 96 rfl rfl)⟩
set_option maxRecDepth 100000 in
theorem fl_RX4_30 : FLok RX4 30 4 7 := ⟨by decide, rfl, Or.inl (gt_1 99 rfl rfl)⟩
set_option maxRecDepth 100000 in
theorem fl_RX4_34 : FLok RX4 34 4 8 := ⟨by decide, rfl, Or.inl (gt_1 102 rfl rfl)⟩
set_option maxRecDepth 100000 in
theorem fl_RX4_37 : FLok RX4 37 4 0 := ⟨by decide, rfl, Or.inl (gt_1 74 rfl rfl)⟩
set_option maxRecDepth 100000 in
theorem fl_RX5_12 : FLok RX5 12 5 1 := ⟨by decide, rfl, Or.inl (gt_2 173 rfl rfl)⟩
set_option maxRecDepth 100000 in
theorem fl_RX5_18 : FLok RX5 18 5 2 := ⟨by decide, rfl, Or.inl (gt_2 174 rfl rfl)⟩
set_option maxRecDepth 100000 in
theorem fl_RX5_22 : FLok RX5 22 5 3 := ⟨by decide, rfl, Or.inl (gt_2 175 rfl rfl)⟩
set_option maxRecDepth 100000 in
theorem fl_RX5_25 : FLok RX5 25 5 4 := ⟨by decide, rfl, Or.inl (gt_2 176 rfl rfl)⟩
set_option maxRecDepth 100000 in
theorem fl_RX5_28 : FLok RX5 28 5 5 := ⟨by decide, rfl, Or.inl (gt_2 177 rfl rfl)⟩
set_option maxRecDepth 100000 in
theorem fl_RX5_31 : FLok RX5 31 5 6 := ⟨by decide, rfl, Or.inl (gt_2 178 rfl rfl)⟩
set_option maxRecDepth 100000 in
theorem fl_RX5_34 : FLok RX5 34 5 13 := ⟨by decide, rfl, Or.inl (gt_2 188 rfl rfl)⟩
set_option maxRecDepth 100000 in
theorem fl_RX5_37 : FLok RX5 37 5 0 := ⟨by decide, rfl, Or.inl (gt_2 172 rfl rfl)⟩
set_option maxRecDepth 100000 in
theorem fl_RX5_53 : FLok RX5 53 5 7 := ⟨by decide, rfl, Or.inl (gt_2 180 rfl rfl)⟩
set_option maxRecDepth 100000 in
theorem fl_RX5_57 : FLok RX5 57 6 0 := ⟨by decide, rfl, Or.inr ⟨"ShipSkins", (nt_1 203 rfl rfl)⟩⟩
set_option maxRecDepth 100000 in
theorem fl_RX5_63 : FLok RX5 63 0 14 := ⟨by decide, rfl, Or.inr ⟨"ShipSkins", (nt_1 160 rfl rfl)⟩⟩
set_option maxRecDepth 100000 in
theorem fl_RX5_69 : FLok RX5 69 4 0 := ⟨by decide, rfl, Or.inr ⟨"ShipSkins", (nt_1 75 rfl rfl)⟩⟩
set_option maxRecDepth 100000 in
theorem fl_RX5_75 : FLok RX5 75 4 2 := ⟨by decide, rfl, Or.inr ⟨"ShipSkins", (nt_1 83 rfl rfl)⟩⟩
set_option maxRecDepth 100000 in
theorem fl_RX5_78 : FLok RX5 78 6 6 := ⟨by decide, rfl, Or.inr ⟨"ShipSkins", (nt_1 217 rfl rfl)⟩⟩
set_option maxRecDepth 100000 in
theorem fl_RX5_94 : FLok RX5 94 9 0 := ⟨by decide, rfl, Or.inr ⟨"ShipSkins", (nt_2 149 rfl rfl)⟩⟩
set_option maxRecDepth 100000 in
theorem fl_RX5_97 : FLok RX5 97 9 2 := ⟨by decide, rfl, Or.inr ⟨"ShipSkins", (nt_2 152 rfl rfl)⟩⟩
set_option maxRecDepth 100000 in
theorem fl_RX5_103 : FLok RX5 103 6 7 := ⟨by decide, rfl, Or.inr ⟨"ShipSkins", (nt_1 220 rfl rfl)⟩⟩
set_option maxRecDepth 100000 in
theorem fl_RX5_107 : FLok RX5 107 6 5 := ⟨by decide, rfl, Or.inr ⟨"ShipSkins", (nt_1 213 rfl rfl)⟩⟩
set_option maxRecDepth 100000 in
theorem fl_RX5_110 : FLok RX5 110 6 4 := ⟨by decide, rfl, Or.inr ⟨"ShipSkins", (nt_1 210 rfl rfl)⟩⟩
set_option maxRecDepth 100000 in
theorem fl_RX5_120 : FLok RX5 120 6 9 := ⟨by decide, rfl, Or.inr ⟨"ShipSkins", (nt_1 227 rfl rfl)⟩⟩
set_option maxRecDepth 100000 in
theorem fl_RX5_123 : FLok RX5 123 6 10 := ⟨by decide, rfl, Or.inr ⟨"ShipSkins", (nt_1 231 rfl rfl)⟩⟩
set_option maxRecDepth 100000 in
theorem fl_RX5_126 : FLok RX5 126 4 5 := ⟨by decide, rfl, Or.inr ⟨"ShipSkins", (nt_1 94 rfl rfl)⟩⟩
set_option maxRecDepth 100000 in
theorem fl_RX5_141 : FLok RX5 141 5 8 := ⟨by decide, rfl, Or.inl (gt_2 182 rfl rfl)⟩
set_option maxRecDepth 100000 in
theorem fl_RX5_144 : FLok RX5 144 5 9 := ⟨by decide, rfl, Or.inl (gt_2 183 rfl rfl)⟩
set_option maxRecDepth 100000 in
theorem fl_RX5_147 : FLok RX5 147 5 10 := ⟨by decide, rfl, Or.inl (gt_2 184 rfl rfl)⟩
set_option maxRecDepth 100000 in
theorem fl_RX5_150 : FLok RX5 150 5 11 := ⟨by decide, rfl, Or.inl (gt_2 185 rfl rfl)⟩
set_option maxRecDepth 100000 in
theorem fl_RX5_162 : FLok RX5 162 5 12 := ⟨by decide, rfl, Or.inl (gt_2 186 rfl rfl)⟩
set_option maxRecDepth 100000 in
theorem fl_RX6_9 : FLok RX6 9 6 2 := ⟨by decide, rfl, Or.inl (gt_1 206 rfl rfl)⟩
set_option maxRecDepth 100000 in
theorem fl_RX6_15 : FLok RX6 15 6 3 := ⟨by decide, rfl, Or.inl (gt_1 207 rfl rfl)⟩
set_option maxRecDepth 100000 in
theorem fl_RX6_18 : FLok RX6 18 6 4 := ⟨by decide, rfl, Or.inl (gt_1 209 rfl rfl)⟩
set_option maxRecDepth 100000 in
theorem fl_RX6_21 : FLok RX6 21 6 5 := ⟨by decide, rfl, Or.inl (gt_1 212 rfl rfl)⟩
set_option maxRecDepth 100000 in
theorem fl_RX6_24 : FLok RX6 24 6 6 := ⟨by decide, rfl, Or.inl (gt_1 216 rfl rfl)⟩
set_option maxRecDepth 100000 in
theorem fl_RX6_27 : FLok RX6 27 6 7 := ⟨by decide, rfl, Or.inl (gt_1 219 rfl rfl)⟩
set_option maxRecDepth 100000 in
theorem fl_RX6_31 : FLok RX6 31 6 9 := ⟨by decide, rfl, Or.inl (gt_1 225 rfl rfl)⟩
set_option maxRecDepth 100000 in
theorem fl_RX6_34 : FLok RX6 34 6 10 := ⟨by decide, rfl, Or.inl (gt_1 229 rfl rfl)⟩
set_option maxRecDepth 100000 in
theorem fl_RX6_37 : FLok RX6 37 6 11 := ⟨by decide, rfl, Or.inl (gt_1 233 rfl rfl)⟩
set_option maxRecDepth 100000 in
theorem fl_RX6_40 : FLok RX6 40 6 12 := ⟨by decide, rfl, Or.inl (gt_1 235 rfl rfl)⟩
set_option maxRecDepth 100000 in
theorem fl_RX6_43 : FLok RX6 43 6 0 := ⟨by decide, rfl, Or.inl (gt_1 202 rfl rfl)⟩
set_option maxRecDepth 100000 in
theorem fl_RX6_47 : FLok RX6 47 6 1 := ⟨by decide, rfl, Or.inl (gt_1 205 rfl rfl)⟩
set_option maxRecDepth 100000 in
theorem fl_RX6_63 : FLok RX6 63 0 13 := ⟨by decide, rfl, Or.inr ⟨"ShipSkins", (nt_1 156 rfl rfl)⟩⟩
set_option maxRecDepth 100000 in
theorem fl_RX6_69 : FLok RX6 69 3 0 := ⟨by decide, rfl, Or.inr ⟨"ShipSkins", (nt_1 38 rfl rfl)⟩⟩
set_option maxRecDepth 100000 in
theorem fl_RX6_74 : FLok RX6 74 3 1 := ⟨by decide, rfl, Or.inr ⟨"ShipSkins", (nt_1 41 rfl rfl)⟩⟩
set_option maxRecDepth 100000 in
theorem fl_RX6_76 : FLok RX6 76 3 2 := ⟨by decide, rfl, Or.inr ⟨"ShipSkins", (nt_1 43 rfl rfl)⟩⟩
set_option maxRecDepth 100000 in
theorem fl_RX6_79 : FLok RX6 79 3 4 := ⟨by decide, rfl, Or.inr ⟨"ShipSkins", (nt_1 47 rfl rfl)⟩⟩
set_option maxRecDepth 100000 in
theorem fl_RX6_80 : FLok RX6 80 3 3 := ⟨by decide, rfl, Or.inr ⟨"ShipSkins", (nt_1 45 rfl rfl)⟩⟩
set_option maxRecDepth 100000 in
theorem fl_RX6_83 : FLok RX6 83 0 8 := ⟨by decide, rfl, Or.inr ⟨"ShipSkins", (nt_1 146 rfl rfl)⟩⟩
set_option maxRecDepth 100000 in
theorem fl_RX6_86 : FLok RX6 86 0 9 := ⟨by decide, rfl, Or.inr ⟨"ShipSkins", (nt_1 148 rfl rfl)⟩⟩
set_option maxRecDepth 100000 in
theorem fl_RX6_89 : FLok RX6 89 0 1 := ⟨by decide, rfl, Or.inr ⟨"ShipSkins", (nt_1 128 rfl rfl)⟩⟩
set_option maxRecDepth 100000 in
theorem fl_RX6_92 : FLok RX6 92 0 10 := ⟨by decide, rfl, Or.inr ⟨"ShipSkins", (nt_1 150 rfl rfl)⟩⟩
set_option maxRecDepth 100000 in
theorem fl_RX6_95 : FLok RX6 95 0 11 := ⟨by decide, rfl, Or.inr ⟨"ShipSkins", (nt_1 152 rfl rfl)⟩⟩
set_option maxRecDepth 100000 in
theorem fl_RX6_98 : FLok RX6 98 0 12 := ⟨by decide, rfl, Or.inr ⟨"ShipSkins", (nt_1 154 rfl rfl)⟩⟩
set_option maxRecDepth 100000 in
theorem fl_RX6_101 : FLok RX6 101 0 14 := ⟨by decide, rfl, Or.inr ⟨"ShipSkins", (nt_1 161 rfl rfl)⟩⟩
set_option maxRecDepth 100000 in
theorem fl_RX6_105 : FLok RX6 105 6 8 := ⟨by decide, rfl, Or.inl (gt_1 223 rfl rfl)⟩
set_option maxRecDepth 100000 in
theorem fl_RX6_108 : FLok RX6 108 4 0 := ⟨by decide, rfl, Or.inr ⟨"ShipSkins", (nt_1 76 rfl rfl)⟩⟩
set_option maxRecDepth 100000 in
theorem fl_RX6_111 : FLok RX6 111 4 1 := ⟨by decide, rfl, Or.inr ⟨"ShipSkins", (nt_1 79 rfl rfl)⟩⟩
set_option maxRecDepth 100000 in
theorem fl_RX6_112 : FLok RX6 112 4 7 := ⟨by decide, rfl, Or.inr ⟨"ShipSkins", (nt_1 100 rfl rfl)⟩⟩
set_option maxRecDepth 100000 in
theorem fl_RX6_115 : FLok RX6 115 4 3 := ⟨by decide, rfl, Or.inr ⟨"ShipSkins", (nt_1 87 rfl rfl)⟩⟩
set_option maxRecDepth 100000 in
theorem fl_RX6_118 : FLok RX6 118 4 4 := ⟨by decide, rfl, Or.inr ⟨"ShipSkins", (nt_1 90 rfl rfl)⟩⟩
set_option maxRecDepth 100000 in
theorem fl_RX6_125 : FLok RX6 125 4 2 := ⟨by decide, rfl, Or.inr ⟨"ShipSkins", (nt_1 84 rfl rfl)⟩⟩
set_option maxRecDepth 100000 in
theorem fl_RX6_146 : FLok RX6 146 4 6 := ⟨by decide, rfl, Or.inr ⟨"ShipSkins", (nt_1 97 rfl rfl)⟩⟩
set_option maxRecDepth 100000 in
theorem fl_RX6_149 : FLok RX6 149 4 8 := ⟨by decide, rfl, Or.inr ⟨"ShipSkins", (nt_1 103 rfl rfl)⟩⟩
set_option maxRecDepth 100000 in
theorem fl_RX6_152 : FLok RX6 152 0 7 := ⟨by decide, rfl, Or.inr ⟨"ShipSkins", (nt_1 144 rfl rfl)⟩⟩
set_option maxRecDepth 100000 in
theorem fl_RX6_155 : FLok RX6 155 3 5 := ⟨by decide, rfl, Or.inr ⟨"ShipSkins", (nt_1 49 rfl rfl)⟩⟩
set_option maxRecDepth 100000 in
theorem fl_RX6_158 : FLok RX6 158 3 6 := ⟨by decide, rfl, Or.inr ⟨"ShipSkins", (nt_1 51 rfl rfl)⟩⟩
set_option maxRecDepth 100000 in
theorem fl_RX7_9 : FLok RX7 9 7 2 := ⟨by decide, rfl, Or.inl (gt_2 228 rfl rfl)⟩
set_option maxRecDepth 100000 in
theorem fl_RX7_15 : FLok RX7 15 7 0 := ⟨by decide, rfl, Or.inl (gt_2 225 rfl rfl)⟩
set_option maxRecDepth 100000 in
theorem fl_RX7_19 : FLok RX7 19 7 1 := ⟨by decide, rfl, Or.inl (gt_2 226 rfl rfl)⟩
set_option maxRecDepth 100000 in
theorem fl_RX7_33 : FLok RX7 33 6 0 := ⟨by decide, rfl, Or.inr ⟨"ShipSkins", (nt_1 204 rfl rfl)⟩⟩
set_option maxRecDepth 100000 in
theorem fl_RX7_39 : FLok RX7 39 6 12 := ⟨by decide, rfl, Or.inr ⟨"ShipSkins", (nt_1 237 rfl rfl)⟩⟩
set_option maxRecDepth 100000 in
theorem fl_RX7_42 : FLok RX7 42 6 7 := ⟨by decide, rfl, Or.inr ⟨"ShipSkins", (nt_1 221 rfl rfl)⟩⟩
set_option maxRecDepth 100000 in
theorem fl_RX7_46 : FLok RX7 46 6 6 := ⟨by decide, rfl, Or.inr ⟨"ShipSkins", (nt_1 218 rfl rfl)⟩⟩
set_option maxRecDepth 100000 in
theorem fl_RX7_49 : FLok RX7 49 6 5 := ⟨by decide, rfl, Or.inr ⟨"ShipSkins", (nt_1 214 rfl rfl)⟩⟩
set_option maxRecDepth 100000 in
theorem fl_RX7_61 : FLok RX7 61 0 3 := ⟨by decide, rfl, Or.inr ⟨"ShipSkins", (nt_1 134 rfl rfl)⟩⟩
set_option maxRecDepth 100000 in
theorem fl_RX7_69 : FLok RX7 69 0 2 := ⟨by decide, rfl, Or.inr ⟨"ShipSkins", (nt_1 131 rfl rfl)⟩⟩
set_option maxRecDepth 100000 in
theorem fl_RX8_11 : FLok RX8 11 8 1 := ⟨by decide, rfl, Or.inl (gt_2 80 rfl rfl)⟩
set_option maxRecDepth 100000 in
theorem fl_RX8_15 : FLok RX8 15 8 0 := ⟨by decide, rfl, Or.inl (gt_2 79 rfl rfl)⟩
set_option maxRecDepth 100000 in
theorem fl_RX8_19 : FLok RX8 19 8 3 := ⟨by decide, rfl, Or.inl (gt_2 84 rfl rfl)⟩
set_option maxRecDepth 100000 in
theorem fl_RX8_23 : FLok RX8 23 8 4 := ⟨by decide, rfl, Or.inl (gt_2 85 rfl rfl)⟩
set_option maxRecDepth 100000 in
theorem fl_RX8_26 : FLok RX8 26 8 5 := ⟨by decide, rfl, Or.inl (gt_2 86 rfl rfl)⟩
set_option maxRecDepth 100000 in
theorem fl_RX8_30 : FLok RX8 30 2 4 := ⟨by decide, rfl, Or.inr ⟨"ShipSkins", (nt_2 42 rfl rfl)⟩⟩
set_option maxRecDepth 100000 in
theorem fl_RX8_39 : FLok RX8 39 8 2 := ⟨by decide, rfl, Or.inl (gt_2 82 rfl rfl)⟩
set_option maxRecDepth 100000 in
theorem fl_RX8_59 : FLok RX8 59 2 2 := ⟨by decide, rfl, Or.inr ⟨"ShipSkins", (nt_2 37 rfl rfl)⟩⟩
set_option maxRecDepth 100000 in
theorem fl_RX8_62 : FLok RX8 62 2 1 := ⟨by decide, rfl, Or.inr ⟨"ShipSkins", (nt_2 33 rfl rfl)⟩⟩
set_option maxRecDepth 100000 in
theorem fl_RX9_11 : FLok RX9 11 9 5 := ⟨by decide, rfl, Or.inl (gt_2 155 rfl rfl)⟩
set_option maxRecDepth 100000 in
theorem fl_RX9_15 : FLok RX9 15 9 6 := ⟨by decide, rfl, Or.inl (gt_2 156 rfl rfl)⟩
set_option maxRecDepth 100000 in
theorem fl_RX9_18 : FLok RX9 18 9 0 := ⟨by decide, rfl, Or.inl (gt_2 148 rfl rfl)⟩
set_option maxRecDepth 100000 in
theorem fl_RX9_22 : FLok RX9 22 9 1 := ⟨by decide, rfl, Or.inl (gt_2 150 rfl rfl)⟩
set_option maxRecDepth 100000 in
theorem fl_RX9_25 : FLok RX9 25 9 2 := ⟨by decide, rfl, Or.inl (gt_2 151 rfl rfl)⟩
set_option maxRecDepth 100000 in
theorem fl_RX9_28 : FLok RX9 28 9 3 := ⟨by decide, rfl, Or.inl (gt_2 153 rfl rfl)⟩
set_option maxRecDepth 100000 in
theorem fl_RX9_31 : FLok RX9 31 9 4 := ⟨by decide, rfl, Or.inl (gt_2 154 rfl rfl)⟩
set_option maxRecDepth 100000 in
theorem fl_RX10_11 : FLok RX10 11 10 1 := ⟨by decide, rfl, Or.inl (gt_2 107 rfl rfl)⟩
set_option maxRecDepth 100000 in
theorem fl_RX10_15 : FLok RX10 15 10 3 := ⟨by decide, rfl, Or.inl (gt_2 110 rfl rfl)⟩
set_option maxRecDepth 100000 in
theorem fl_RX10_19 : FLok RX10 19 10 0 := ⟨by decide, rfl, Or.inl (gt_2 106 rfl rfl)⟩
set_option maxRecDepth 100000 in
theorem fl_RX10_23 : FLok RX10 23 10 2 := ⟨by decide, rfl, Or.inl (gt_2 108 rfl rfl)⟩
set_option maxRecDepth 100000 in
theorem fl_RX10_26 : FLok RX10 26 10 4 := ⟨by decide, rfl, Or.inl (gt_2 112 rfl rfl)⟩
set_option maxRecDepth 100000 in
theorem fl_RX10_29 : FLok RX10 29 10 5 := ⟨by decide, rfl, Or.inl (gt_2 113 rfl rfl)⟩
set_option maxRecDepth 100000 in
theorem fl_RX10_35 : FLok RX10 35 2 4 := ⟨by decide, rfl, Or.inr ⟨"ShipSkins", (nt_2 44 rfl rfl)⟩⟩
set_option maxRecDepth 100000 in
theorem fl_RX10_48 : FLok RX10 48 10 7 := ⟨by decide, rfl, Or.inl (gt_2 115 rfl rfl)⟩
set_option maxRecDepth 100000 in
theorem fl_RX10_51 : FLok RX10 51 10 6 := ⟨by decide, rfl, Or.inl (gt_2 114 rfl rfl)⟩
set_option maxRecDepth 100000 in
theorem fl_RX10_60 : FLok RX10 60 10 8 := ⟨by decide, rfl, Or.inl (gt_2 116 rfl rfl)⟩
set_option maxRecDepth 100000 in
theorem fl_RX10_80 : FLok RX10 80 2 2 := ⟨by decide, rfl, Or.inr ⟨"ShipSkins", (nt_2 39 rfl rfl)⟩⟩
set_option maxRecDepth 100000 in
theorem fl_RX10_83 : FLok RX10 83 2 1 := ⟨by decide, rfl, Or.inr ⟨"ShipSkins", (nt_2 35 rfl rfl)⟩⟩
set_option maxRecDepth 100000 in
theorem fl_RX12_7 : FLok RX12 7 12 0 := ⟨by decide, rfl, Or.inl (gt_5 158 rfl rfl)⟩
set_option maxRecDepth 100000 in
theorem fl_RX12_17 : FLok RX12 17 12 1 := ⟨by decide, rfl, Or.inl (gt_5 159 rfl rfl)⟩
set_option maxRecDepth 100000 in
theorem fl_RX12_21 : FLok RX12 21 12 2 := ⟨by decide, rfl, Or.inl (gt_5 160 rfl rfl)⟩
set_option maxRecDepth 100000 in
theorem fl_RX12_24 : FLok RX12 24 12 3 := ⟨by decide, rfl, Or.inl (gt_5 161 rfl rfl)⟩
set_option maxRecDepth 100000 in
theorem fl_RX12_28 : FLok RX12 28 12 4 := ⟨by decide, rfl, Or.inl (gt_5 162 rfl rfl)⟩
set_option maxRecDepth 100000 in
theorem fl_RX12_31 : FLok RX12 31 12 5 := ⟨by decide, rfl, Or.inl (gt_5 163 rfl rfl)⟩
set_option maxRecDepth 100000 in
theorem fl_RX12_34 : FLok RX12 34 12 6 := ⟨by decide, rfl, Or.inl (gt_5 164 rfl rfl)⟩
set_option maxRecDepth 100000 in
theorem fl_RX12_37 : FLok RX12 37 12 7 := ⟨by decide, rfl, Or.inl (gt_5 165 rfl rfl)⟩
set_option maxRecDepth 100000 in
theorem fl_RX12_40 : FLok RX12 40 12 10 := ⟨by decide, rfl, Or.inl (gt_5 168 rfl rfl)⟩
set_option maxRecDepth 100000 in
theorem fl_RX12_43 : FLok RX12 43 12 14 := ⟨by decide, rfl, Or.inl (gt_5 172 rfl rfl)⟩
set_option maxRecDepth 100000 in
theorem fl_RX12_46 : FLok RX12 46 12 15 := ⟨by decide, rfl, Or.inl (gt_5 173 rfl rfl)⟩
set_option maxRecDepth 100000 in
theorem fl_RX12_50 : FLok RX12 50 12 16 := ⟨by decide, rfl, Or.inl (gt_5 174 rfl rfl)⟩
set_option maxRecDepth 100000 in
theorem fl_RX12_53 : FLok RX12 53 12 17 := ⟨by decide, rfl, Or.inl (gt_5 175 rfl rfl)⟩
set_option maxRecDepth 100000 in
theorem fl_RX12_56 : FLok RX12 56 12 20 := ⟨by decide, rfl, Or.inl (gt_5 178 rfl rfl)⟩
set_option maxRecDepth 100000 in
theorem fl_RX12_59 : FLok RX12 59 12 22 := ⟨by decide, rfl, Or.inl (gt_5 180 rfl rfl)⟩
set_option maxRecDepth 100000 in
theorem fl_RX12_62 : FLok RX12 62 12 23 := ⟨by decide, rfl, Or.inl (gt_5 181 rfl rfl)⟩
set_option maxRecDepth 100000 in
theorem fl_RX12_65 : FLok RX12 65 12 24 := ⟨by decide, rfl, Or.inl (gt_5 182 rfl rfl)⟩
set_option maxRecDepth 100000 in
theorem fl_RX12_68 : FLok RX12 68 12 29 := ⟨by decide, rfl, Or.inl (gt_5 187 rfl rfl)⟩
set_option maxRecDepth 100000 in
theorem fl_RX12_72 : FLok RX12 72 12 32 := ⟨by decide, rfl, Or.inl (gt_5 190 rfl rfl)⟩
set_option maxRecDepth 100000 in
theorem fl_RX12_75 : FLok RX12 75 12 33 := ⟨by decide, rfl, Or.inl (gt_5 191 rfl rfl)⟩
set_option maxRecDepth 100000 in
theorem fl_RX12_78 : FLok RX12 78 12 34 := ⟨by decide, rfl, Or.inl (gt_5 192 rfl rfl)⟩
set_option maxRecDepth 100000 in
theorem fl_RX12_81 : FLok RX12 81 12 35 := ⟨by decide, rfl, Or.inl (gt_5 193 rfl rfl)⟩
set_option maxRecDepth 100000 in
theorem fl_RX12_84 : FLok RX12 84 12 36 := ⟨by decide, rfl, Or.inl (gt_5 194 rfl rfl)⟩
set_option maxRecDepth 100000 in
theorem fl_RX12_87 : FLok RX12 87 12 37 := ⟨by decide, rfl, Or.inl (gt_5 195 rfl rfl)⟩
set_option maxRecDepth 100000 in
theorem fl_RX12_90 : FLok RX12 90 12 39 := ⟨by decide, rfl, Or.inl (gt_5 197 rfl rfl)⟩
set_option maxRecDepth 100000 in
theorem fl_RX12_93 : FLok RX12 93 12 40 := ⟨by decide, rfl, Or.inl (gt_5 198 rfl rfl)⟩
set_option maxRecDepth 100000 in
theorem fl_RX12_96 : FLok RX12 96 12 41 := ⟨by decide, rfl, Or.inl (gt_5 199 rfl rfl)⟩
set_option maxRecDepth 100000 in
theorem fl_RX12_99 : FLok RX12 99 12 46 := ⟨by decide, rfl, Or.inl (gt_5 204 rfl rfl)⟩
set_option maxRecDepth 100000 in
theorem fl_RX12_160 : FLok RX12 160 12 8 := ⟨by decide, rfl, Or.inl (gt_5 166 rfl rfl)⟩
set_option maxRecDepth 100000 in
theorem fl_RX12_163 : FLok RX12 163 12 9 := ⟨by decide, rfl, Or.inl (gt_5 167 rfl rfl)⟩
set_option maxRecDepth 100000 in
theorem fl_RX12_198 : FLok RX12 198 12 12 := ⟨by decide, rfl, Or.inl (gt_5 170 rfl rfl)⟩
set_option maxRecDepth 100000 in
theorem fl_RX12_204 : FLok RX12 204 12 13 := ⟨by decide, rfl, Or.inl (gt_5 171 rfl rfl)⟩
set_option maxRecDepth 100000 in
theorem fl_RX12_207 : FLok RX12 207 12 11 := ⟨by decide, rfl, Or.inl (gt_5 169 rfl rfl)⟩
set_option maxRecDepth 100000 in
theorem fl_RX12_220 : FLok RX12 220 12 18 := ⟨by decide, rfl, Or.inl (gt_5 176 rfl rfl)⟩
set_option maxRecDepth 100000 in
theorem fl_RX12_227 : FLok RX12 227 12 21 := ⟨by decide, rfl, Or.inl (gt_5 179 rfl rfl)⟩
set_option maxRecDepth 100000 in
theorem fl_RX12_236 : FLok RX12 236 12 19 := ⟨by decide, rfl, Or.inl (gt_5 177 rfl rfl)⟩
set_option maxRecDepth 100000 in
theorem fl_RX12_251 : FLok RX12 251 12 25 := ⟨by decide, rfl, Or.inl (gt_5 183 rfl rfl)⟩
set_option maxRecDepth 100000 in
theorem fl_RX12_254 : FLok RX12 254 12 26 := ⟨by decide, rfl, Or.inl (gt_5 184 rfl rfl)⟩
set_option maxRecDepth 100000 in
theorem fl_RX12_257 : FLok RX12 257 12 28 := ⟨by decide, rfl, Or.inl (gt_5 186 rfl rfl)⟩
set_option maxRecDepth 100000 in
theorem fl_RX12_260 : FLok RX12 260 12 27 := ⟨by decide, rfl, Or.inl (gt_5 185 rfl rfl)⟩
set_option maxRecDepth 100000 in
theorem fl_RX12_266 : FLok RX12 266 12 30 := ⟨by decide, rfl, Or.inl (gt_5 188 rfl rfl)⟩
set_option maxRecDepth 100000 in
theorem fl_RX12_294 : FLok RX12 294 12 31 := ⟨by decide, rfl, Or.inl (gt_5 189 rfl rfl)⟩
set_option maxRecDepth 100000 in
theorem fl_RX12_313 : FLok RX12 313 12 38 := ⟨by decide, rfl, Or.inl (gt_5 196 rfl rfl)⟩
set_option maxRecDepth 100000 in
theorem fl_RX12_317 : FLok RX12 317 12 45 := ⟨by decide, rfl, Or.inl (gt_5 203 rfl rfl)⟩
set_option maxRecDepth 100000 in
theorem fl_RX12_320 : FLok RX12 320 12 42 := ⟨by decide, rfl, Or.inl (gt_5 200 rfl rfl)⟩
set_option maxRecDepth 100000 in
theorem fl_RX12_323 : FLok RX12 323 12 43 := ⟨by decide, rfl, Or.inl (gt_5 201 rfl rfl)⟩
set_option maxRecDepth 100000 in
theorem fl_RX12_326 : FLok RX12 326 12 44 := ⟨by decide, rfl, Or.inl (gt_5 202 rfl rfl)⟩
set_option maxRecDepth 100000 in
theorem fl_RX12_336 : FLok RX12 336 12 47 := ⟨by decide, rfl, Or.inl (gt_5 205 rfl rfl)⟩
set_option maxRecDepth 100000 in
theorem my_X0_init : MYok false yX0_init cX0_init 2 none 0 := ⟨(gt_1 29 rfl rfl), ⟨(gt_1 28 rfl rfl), Or.inl rfl⟩, (gt_1 2 rfl rfl), ⟨by decide, by decide⟩, by decide +kernel⟩
set_option maxRecDepth 100000 in
theorem my_X0_setLaw : MYok false yX0_setLaw cX0_setLaw 4 none 3 := ⟨(gt_3 51 rfl rfl), ⟨(gt_3 50 rfl rfl), Or.inr (gs_1 1 rfl)⟩, (gt_1 2 rfl rfl), ⟨by decide, by decide⟩, by decide +kernel⟩
set_option maxRecDepth 100000 in
theorem my_X0_isCleaned : MYok false yX0_isCleaned cX0_isCleaned 4 (some .boolean) 2 := ⟨(gt_3 82 rfl rfl), ⟨(gt_3 81 rfl rfl), Or.inr (gs_1 5 rfl)⟩, (gt_1 2 rfl rfl), ⟨by decide, by decide⟩, by decide +kernel⟩
set_option maxRecDepth 100000 in
theorem my_X0_addCleaning : MYok false yX0_addCleaning cX0_addCleaning 4 none 3 := ⟨(gt_3 86 rfl rfl), ⟨(gt_3 85 rfl rfl), Or.inr (gs_1 6 rfl)⟩, (gt_1 2 rfl rfl), ⟨by decide, by decide⟩, by decide +kernel⟩
set_option maxRecDepth 100000 in
theorem my_X0_copyFrom : MYok false yX0_copyFrom cX0_copyFrom 2 none 1 := ⟨(gt_5 125 rfl rfl), ⟨(gt_5 124 rfl rfl), Or.inr (gs_6 10 rfl)⟩, (gt_1 2 rfl rfl), ⟨by decide, by decide⟩, by decide +kernel⟩
set_option maxRecDepth 100000 in
theorem my_X1_init : MYok false yX1_init cX1_init 2 none 1 := ⟨(gt_2 60 rfl rfl), ⟨(gt_2 59 rfl rfl), Or.inl rfl⟩, (gt_1 7 rfl rfl), ⟨by decide, by decide⟩, by decide +kernel⟩
set_option maxRecDepth 100000 in
theorem my_X1_choose : MYok false yX1_choose cX1_choose 1 none 0 := ⟨(gt_4 36 rfl rfl), ⟨(gt_4 35 rfl rfl), Or.inr (gs_3 1 rfl)⟩, (gt_1 7 rfl rfl), ⟨by decide, by decide⟩, by decide +kernel⟩
set_option maxRecDepth 100000 in
theorem my_X1_bestWorth : MYok false yX1_bestWorth cX1_bestWorth 1 (some .int) 0 := ⟨(gt_4 73 rfl rfl), ⟨(gt_4 72 rfl rfl), Or.inr (gs_3 9 rfl)⟩, (gt_1 7 rfl rfl), ⟨by decide, by decide⟩, by decide +kernel⟩
set_option maxRecDepth 100000 in
theorem my_X1_keyOf : MYok false yX1_keyOf cX1_keyOf 2 (some .long) 1 := ⟨(gt_4 57 rfl rfl), ⟨(gt_4 56 rfl rfl), Or.inr (gs_3 6 rfl)⟩, (gt_1 7 rfl rfl), ⟨by decide, by decide⟩, by decide +kernel⟩
set_option maxRecDepth 100000 in
theorem my_X1_search : MYok false yX1_search cX1_search 8 none 4 := ⟨(gt_4 41 rfl rfl), ⟨(gt_4 40 rfl rfl), Or.inr (gs_3 2 rfl)⟩, (gt_1 7 rfl rfl), ⟨by decide, by decide⟩, by decide +kernel⟩
set_option maxRecDepth 100000 in
theorem my_X1_bound : MYok false yX1_bound cX1_bound 7 (some .long) 1 := ⟨(gt_4 45 rfl rfl), ⟨(gt_4 44 rfl rfl), Or.inr (gs_3 3 rfl)⟩, (gt_1 7 rfl rfl), ⟨by decide, by decide⟩, by decide +kernel⟩
set_option maxRecDepth 100000 in
theorem my_X1_greatestKey : MYok false yX1_greatestKey cX1_greatestKey 5 (some .long) 1 := ⟨(gt_4 53 rfl rfl), ⟨(gt_4 52 rfl rfl), Or.inr (gs_3 5 rfl)⟩, (gt_1 7 rfl rfl), ⟨by decide, by decide⟩, by decide +kernel⟩
set_option maxRecDepth 100000 in
theorem my_X1_allKeys : MYok false yX1_allKeys cX1_allKeys 5 (some .long) 1 := ⟨(gt_4 69 rfl rfl), ⟨(gt_4 68 rfl rfl), Or.inr (gs_3 8 rfl)⟩, (gt_1 7 rfl rfl), ⟨by decide, by decide⟩, by decide +kernel⟩
set_option maxRecDepth 100000 in
theorem my_X2_init : MYok false yX2_init cX2_init 2 none 1 := ⟨(gt_2 29 rfl rfl), ⟨(gt_2 28 rfl rfl), Or.inl rfl⟩, (gt_1 6 rfl rfl), ⟨by decide, by decide⟩, by decide +kernel⟩
set_option maxRecDepth 100000 in
theorem my_X2_load : MYok false yX2_load cX2_load 4 none 2 := ⟨(gt_3 239 rfl rfl), ⟨(gt_3 238 rfl rfl), Or.inr (gs_2 12 rfl)⟩, (gt_1 6 rfl rfl), ⟨by decide, by decide⟩, by decide +kernel⟩
set_option maxRecDepth 100000 in
theorem my_X2_findFoes : MYok false yX2_findFoes cX2_findFoes 5 none 1 := ⟨(gt_4 5 rfl rfl), ⟨(gt_4 4 rfl rfl), Or.inr (gs_2 13 rfl)⟩, (gt_1 6 rfl rfl), ⟨by decide, by decide⟩, by decide +kernel⟩
set_option maxRecDepth 100000 in
theorem my_X2_pairs : MYok false yX2_pairs cX2_pairs 3 (some .int) 0 := ⟨(gt_4 10 rfl rfl), ⟨(gt_4 9 rfl rfl), Or.inr (gs_2 14 rfl)⟩, (gt_1 6 rfl rfl), ⟨by decide, by decide⟩, by decide +kernel⟩
set_option maxRecDepth 100000 in
theorem my_X2_pairAt : MYok false yX2_pairAt cX2_pairAt 5 (some .int) 1 := ⟨(gt_4 20 rfl rfl), ⟨(gt_4 19 rfl rfl), Or.inr (gs_2 15 rfl)⟩, (gt_1 6 rfl rfl), ⟨by decide, by decide⟩, by decide +kernel⟩
set_option maxRecDepth 100000 in
theorem my_X2_groupFrom : MYok false yX2_groupFrom cX2_groupFrom 5 (some .int) 2 := ⟨(gt_4 49 rfl rfl), ⟨(gt_4 48 rfl rfl), Or.inr (gs_3 4 rfl)⟩, (gt_1 6 rfl rfl), ⟨by decide, by decide⟩, by decide +kernel⟩
set_option maxRecDepth 100000 in
theorem my_X2_busiest : MYok false yX2_busiest cX2_busiest 6 (some .int) 1 := ⟨(gt_4 65 rfl rfl), ⟨(gt_4 64 rfl rfl), Or.inr (gs_3 7 rfl)⟩, (gt_1 6 rfl rfl), ⟨by decide, by decide⟩, by decide +kernel⟩
set_option maxRecDepth 100000 in
theorem my_X2_greatestWorth : MYok false yX2_greatestWorth cX2_greatestWorth 4 (some .int) 1 := ⟨(gt_4 103 rfl rfl), ⟨(gt_4 102 rfl rfl), Or.inr (gs_3 14 rfl)⟩, (gt_1 6 rfl rfl), ⟨by decide, by decide⟩, by decide +kernel⟩
set_option maxRecDepth 100000 in
theorem my_X2_allWorth : MYok false yX2_allWorth cX2_allWorth 4 (some .int) 1 := ⟨(gt_4 77 rfl rfl), ⟨(gt_4 76 rfl rfl), Or.inr (gs_3 10 rfl)⟩, (gt_1 6 rfl rfl), ⟨by decide, by decide⟩, by decide +kernel⟩
set_option maxRecDepth 100000 in
theorem my_X3_init : MYok false yX3_init cX3_init 1 none 0 := ⟨(gt_1 35 rfl rfl), ⟨(gt_1 34 rfl rfl), Or.inl rfl⟩, (gt_1 3 rfl rfl), ⟨by decide, by decide⟩, by decide +kernel⟩
set_option maxRecDepth 100000 in
theorem my_X3_append : MYok false yX3_append cX3_append 7 none 6 := ⟨(gt_3 74 rfl rfl), ⟨(gt_3 73 rfl rfl), Or.inr (gs_1 4 rfl)⟩, (gt_1 3 rfl rfl), ⟨by decide, by decide⟩, by decide +kernel⟩
set_option maxRecDepth 100000 in
theorem my_X3_copyFrom : MYok false yX3_copyFrom cX3_copyFrom 2 none 1 := ⟨(gt_5 132 rfl rfl), ⟨(gt_5 131 rfl rfl), Or.inr (gs_6 11 rfl)⟩, (gt_1 3 rfl rfl), ⟨by decide, by decide⟩, by decide +kernel⟩
set_option maxRecDepth 100000 in
theorem my_X4_init : MYok false yX4_init cX4_init 1 none 0 := ⟨(gt_1 72 rfl rfl), ⟨(gt_1 71 rfl rfl), Or.inl rfl⟩, (gt_1 4 rfl rfl), ⟨by decide, by decide⟩, by decide +kernel⟩
set_option maxRecDepth 100000 in
theorem my_X4_sum : MYok false yX4_sum cX4_sum 4 (some .long) 0 := ⟨(gt_5 105 rfl rfl), ⟨(gt_5 104 rfl rfl), Or.inr (gs_6 8 rfl)⟩, (gt_1 4 rfl rfl), ⟨by decide, by decide⟩, by decide +kernel⟩
set_option maxRecDepth 100000 in
theorem my_X4_placedSum : MYok false yX4_placedSum cX4_placedSum 4 (some .long) 0 := ⟨(gt_5 109 rfl rfl), ⟨(gt_5 108 rfl rfl), Or.inr (gs_6 9 rfl)⟩, (gt_1 4 rfl rfl), ⟨by decide, by decide⟩, by decide +kernel⟩
set_option maxRecDepth 100000 in
theorem my_X4_copyFrom : MYok false yX4_copyFrom cX4_copyFrom 3 none 1 := ⟨(gt_5 137 rfl rfl), ⟨(gt_5 136 rfl rfl), Or.inr (gs_6 12 rfl)⟩, (gt_1 4 rfl rfl), ⟨by decide, by decide⟩, by decide +kernel⟩
set_option maxRecDepth 100000 in
theorem my_X5_init : MYok false yX5_init cX5_init 2 none 1 := ⟨(gt_2 140 rfl rfl), ⟨(gt_2 139 rfl rfl), Or.inl rfl⟩, (gt_1 10 rfl rfl), ⟨by decide, by decide⟩, by decide +kernel⟩
set_option maxRecDepth 100000 in
theorem my_X5_leastMiss : MYok false yX5_leastMiss cX5_leastMiss 3 (some .int) 1 := ⟨(gt_4 199 rfl rfl), ⟨(gt_4 198 rfl rfl), Or.inr (gs_4 14 rfl)⟩, (gt_1 10 rfl rfl), ⟨by decide, by decide⟩, by decide +kernel⟩
set_option maxRecDepth 100000 in
theorem my_X5_sortByDay : MYok false yX5_sortByDay cX5_sortByDay 4 none 1 := ⟨(gt_4 203 rfl rfl), ⟨(gt_4 202 rfl rfl), Or.inr (gs_4 15 rfl)⟩, (gt_1 10 rfl rfl), ⟨by decide, by decide⟩, by decide +kernel⟩
set_option maxRecDepth 100000 in
theorem my_X5_sweepBack : MYok false yX5_sweepBack cX5_sweepBack 2 (some .int) 0 := ⟨(gt_4 207 rfl rfl), ⟨(gt_4 206 rfl rfl), Or.inr (gs_5 0 rfl)⟩, (gt_1 10 rfl rfl), ⟨by decide, by decide⟩, by decide +kernel⟩
set_option maxRecDepth 100000 in
theorem my_X5_stepBack : MYok false yX5_stepBack cX5_stepBack 2 (some .boolean) 1 := ⟨(gt_4 216 rfl rfl), ⟨(gt_4 215 rfl rfl), Or.inr (gs_5 2 rfl)⟩, (gt_1 10 rfl rfl), ⟨by decide, by decide⟩, by decide +kernel⟩
set_option maxRecDepth 100000 in
theorem my_X5_stepAhead : MYok false yX5_stepAhead cX5_stepAhead 2 (some .boolean) 1 := ⟨(gt_5 44 rfl rfl), ⟨(gt_5 43 rfl rfl), Or.inr (gs_6 0 rfl)⟩, (gt_1 10 rfl rfl), ⟨by decide, by decide⟩, by decide +kernel⟩
set_option maxRecDepth 100000 in
theorem my_X5_addLogs : MYok false yX5_addLogs cX5_addLogs 3 none 1 := ⟨(gt_5 6 rfl rfl), ⟨(gt_5 5 rfl rfl), Or.inr (gs_5 9 rfl)⟩, (gt_1 10 rfl rfl), ⟨by decide, by decide⟩, by decide +kernel⟩
set_option maxRecDepth 100000 in
theorem my_X5_followBottoms : MYok false yX5_followBottoms cX5_followBottoms 3 none 0 := ⟨(gt_5 22 rfl rfl), ⟨(gt_5 21 rfl rfl), Or.inr (gs_5 13 rfl)⟩, (gt_1 10 rfl rfl), ⟨by decide, by decide⟩, by decide +kernel⟩
set_option maxRecDepth 100000 in
theorem my_X5_leastWithHidden : MYok false yX5_leastWithHidden cX5_leastWithHidden 4 (some .int) 2 := ⟨(gt_5 36 rfl rfl), ⟨(gt_5 35 rfl rfl), Or.inr (gs_5 14 rfl)⟩, (gt_1 10 rfl rfl), ⟨by decide, by decide⟩, by decide +kernel⟩
set_option maxRecDepth 100000 in
theorem my_X5_sweepAhead : MYok false yX5_sweepAhead cX5_sweepAhead 2 none 0 := ⟨(gt_5 40 rfl rfl), ⟨(gt_5 39 rfl rfl), Or.inr (gs_5 15 rfl)⟩, (gt_1 10 rfl rfl), ⟨by decide, by decide⟩, by decide +kernel⟩
set_option maxRecDepth 100000 in
theorem my_X5_tryOne : MYok false yX5_tryOne cX5_tryOne 3 none 1 := ⟨(gt_5 48 rfl rfl), ⟨(gt_5 47 rfl rfl), Or.inr (gs_6 1 rfl)⟩, (gt_1 10 rfl rfl), ⟨by decide, by decide⟩, by decide +kernel⟩
set_option maxRecDepth 100000 in
theorem my_X5_tryTwo : MYok false yX5_tryTwo cX5_tryTwo 6 none 2 := ⟨(gt_5 56 rfl rfl), ⟨(gt_5 55 rfl rfl), Or.inr (gs_6 3 rfl)⟩, (gt_1 10 rfl rfl), ⟨by decide, by decide⟩, by decide +kernel⟩
set_option maxRecDepth 100000 in
theorem my_X5_offer : MYok false yX5_offer cX5_offer 5 none 4 := ⟨(gt_5 52 rfl rfl), ⟨(gt_5 51 rfl rfl), Or.inr (gs_6 2 rfl)⟩, (gt_1 10 rfl rfl), ⟨by decide, by decide⟩, by decide +kernel⟩
set_option maxRecDepth 100000 in
theorem my_X6_init : MYok false yX6_init cX6_init 2 none 1 := ⟨(gt_1 199 rfl rfl), ⟨(gt_1 198 rfl rfl), Or.inl rfl⟩, (gt_1 5 rfl rfl), ⟨by decide, by decide⟩, by decide +kernel⟩
set_option maxRecDepth 100000 in
theorem my_X6_load : MYok false yX6_load cX6_load 2 none 1 := ⟨(gt_3 99 rfl rfl), ⟨(gt_3 98 rfl rfl), Or.inr (gs_1 7 rfl)⟩, (gt_1 5 rfl rfl), ⟨by decide, by decide⟩, by decide +kernel⟩
set_option maxRecDepth 100000 in
theorem my_X6_findLegs : MYok false yX6_findLegs cX6_findLegs 3 none 0 := ⟨(gt_3 103 rfl rfl), ⟨(gt_3 102 rfl rfl), Or.inr (gs_1 8 rfl)⟩, (gt_1 5 rfl rfl), ⟨by decide, by decide⟩, by decide +kernel⟩
set_option maxRecDepth 100000 in
theorem my_X6_findLaws : MYok false yX6_findLaws cX6_findLaws 5 none 0 := ⟨(gt_3 107 rfl rfl), ⟨(gt_3 106 rfl rfl), Or.inr (gs_1 9 rfl)⟩, (gt_1 5 rfl rfl), ⟨by decide, by decide⟩, by decide +kernel⟩
set_option maxRecDepth 100000 in
theorem my_X6_findCleanings : MYok false yX6_findCleanings cX6_findCleanings 2 none 0 := ⟨(gt_3 111 rfl rfl), ⟨(gt_3 110 rfl rfl), Or.inr (gs_1 10 rfl)⟩, (gt_1 5 rfl rfl), ⟨by decide, by decide⟩, by decide +kernel⟩
set_option maxRecDepth 100000 in
theorem my_X6_readLogs : MYok false yX6_readLogs cX6_readLogs 3 none 0 := ⟨(gt_3 115 rfl rfl), ⟨(gt_3 114 rfl rfl), Or.inr (gs_1 11 rfl)⟩, (gt_1 5 rfl rfl), ⟨by decide, by decide⟩, by decide +kernel⟩
set_option maxRecDepth 100000 in
theorem my_X6_readFuel : MYok false yX6_readFuel cX6_readFuel 9 none 4 := ⟨(gt_3 123 rfl rfl), ⟨(gt_3 122 rfl rfl), Or.inr (gs_1 13 rfl)⟩, (gt_1 5 rfl rfl), ⟨by decide, by decide⟩, by decide +kernel⟩
set_option maxRecDepth 100000 in
theorem my_X6_keepReading : MYok false yX6_keepReading cX6_keepReading 5 none 3 := ⟨(gt_3 119 rfl rfl), ⟨(gt_3 118 rfl rfl), Or.inr (gs_1 12 rfl)⟩, (gt_1 5 rfl rfl), ⟨by decide, by decide⟩, by decide +kernel⟩
set_option maxRecDepth 100000 in
theorem my_X6_counting : MYok false yX6_counting cX6_counting 5 (some .int) 1 := ⟨(gt_3 185 rfl rfl), ⟨(gt_3 184 rfl rfl), Or.inr (gs_2 4 rfl)⟩, (gt_1 5 rfl rfl), ⟨by decide, by decide⟩, by decide +kernel⟩
set_option maxRecDepth 100000 in
theorem my_X6_portion : MYok false yX6_portion cX6_portion 6 (some .int) 3 := ⟨(gt_3 127 rfl rfl), ⟨(gt_3 126 rfl rfl), Or.inr (gs_1 14 rfl)⟩, (gt_1 5 rfl rfl), ⟨by decide, by decide⟩, by decide +kernel⟩
set_option maxRecDepth 100000 in
theorem my_X6_fuel : MYok false yX6_fuel cX6_fuel 5 (some .int) 2 := ⟨(gt_3 168 rfl rfl), ⟨(gt_3 167 rfl rfl), Or.inr (gs_2 1 rfl)⟩, (gt_1 5 rfl rfl), ⟨by decide, by decide⟩, by decide +kernel⟩
set_option maxRecDepth 100000 in
theorem my_X6_skinFuel : MYok false yX6_skinFuel cX6_skinFuel 3 (some .int) 2 := ⟨(gt_3 223 rfl rfl), ⟨(gt_3 222 rfl rfl), Or.inr (gs_2 10 rfl)⟩, (gt_1 5 rfl rfl), ⟨by decide, by decide⟩, by decide +kernel⟩
set_option maxRecDepth 100000 in
theorem my_X6_shareOf : MYok false yX6_shareOf cX6_shareOf 9 (some .int) 3 := ⟨(gt_3 172 rfl rfl), ⟨(gt_3 171 rfl rfl), Or.inr (gs_2 2 rfl)⟩, (gt_1 5 rfl rfl), ⟨by decide, by decide⟩, by decide +kernel⟩
set_option maxRecDepth 100000 in
theorem my_X6_bind : MYok false yX6_bind cX6_bind 4 (some .boolean) 1 := ⟨(gt_3 189 rfl rfl), ⟨(gt_3 188 rfl rfl), Or.inr (gs_2 5 rfl)⟩, (gt_1 5 rfl rfl), ⟨by decide, by decide⟩, by decide +kernel⟩
set_option maxRecDepth 100000 in
theorem my_X6_narrow : MYok false yX6_narrow cX6_narrow 4 none 3 := ⟨(gt_3 193 rfl rfl), ⟨(gt_3 192 rfl rfl), Or.inr (gs_2 6 rfl)⟩, (gt_1 5 rfl rfl), ⟨by decide, by decide⟩, by decide +kernel⟩
set_option maxRecDepth 100000 in
theorem my_X6_isBound : MYok false yX6_isBound cX6_isBound 2 (some .boolean) 0 := ⟨(gt_3 197 rfl rfl), ⟨(gt_3 196 rfl rfl), Or.inr (gs_2 7 rfl)⟩, (gt_1 5 rfl rfl), ⟨by decide, by decide⟩, by decide +kernel⟩
set_option maxRecDepth 100000 in
theorem my_X6_endOf : MYok false yX6_endOf cX6_endOf 3 (some .int) 2 := ⟨(gt_3 201 rfl rfl), ⟨(gt_3 200 rfl rfl), Or.inr (gs_2 8 rfl)⟩, (gt_1 5 rfl rfl), ⟨by decide, by decide⟩, by decide +kernel⟩
set_option maxRecDepth 100000 in
theorem my_X6_widthOf : MYok false yX6_widthOf cX6_widthOf 2 (some .int) 1 := ⟨(gt_3 231 rfl rfl), ⟨(gt_3 230 rfl rfl), Or.inr (gs_2 11 rfl)⟩, (gt_1 5 rfl rfl), ⟨by decide, by decide⟩, by decide +kernel⟩
set_option maxRecDepth 100000 in
theorem my_X6_makerOf : MYok false yX6_makerOf cX6_makerOf 6 (some .int) 3 := ⟨(gt_3 209 rfl rfl), ⟨(gt_3 208 rfl rfl), Or.inr (gs_2 9 rfl)⟩, (gt_1 5 rfl rfl), ⟨by decide, by decide⟩, by decide +kernel⟩
set_option maxRecDepth 100000 in
theorem my_X7_init : MYok false yX7_init cX7_init 2 none 1 := ⟨(gt_2 223 rfl rfl), ⟨(gt_2 222 rfl rfl), Or.inl rfl⟩, (gt_1 12 rfl rfl), ⟨by decide, by decide⟩, by decide +kernel⟩
set_option maxRecDepth 100000 in
theorem my_X7_append : MYok false yX7_append cX7_append 2 none 1 := ⟨(gt_5 68 rfl rfl), ⟨(gt_5 67 rfl rfl), Or.inr (gs_6 4 rfl)⟩, (gt_1 12 rfl rfl), ⟨by decide, by decide⟩, by decide +kernel⟩
set_option maxRecDepth 100000 in
theorem my_X7_drop : MYok false yX7_drop cX7_drop 2 none 0 := ⟨(gt_5 76 rfl rfl), ⟨(gt_5 75 rfl rfl), Or.inr (gs_6 5 rfl)⟩, (gt_1 12 rfl rfl), ⟨by decide, by decide⟩, by decide +kernel⟩
set_option maxRecDepth 100000 in
theorem my_X7_cheapest : MYok false yX7_cheapest cX7_cheapest 10 (some .int) 2 := ⟨(gt_5 84 rfl rfl), ⟨(gt_5 83 rfl rfl), Or.inr (gs_6 6 rfl)⟩, (gt_1 12 rfl rfl), ⟨by decide, by decide⟩, by decide +kernel⟩
set_option maxRecDepth 100000 in
theorem my_X7_worstCost : MYok false yX7_worstCost cX7_worstCost 9 (some .long) 3 := ⟨(gt_5 88 rfl rfl), ⟨(gt_5 87 rfl rfl), Or.inr (gs_6 7 rfl)⟩, (gt_1 12 rfl rfl), ⟨by decide, by decide⟩, by decide +kernel⟩
set_option maxRecDepth 100000 in
theorem my_X8_init : MYok false yX8_init cX8_init 2 none 1 := ⟨(gt_2 77 rfl rfl), ⟨(gt_2 76 rfl rfl), Or.inl rfl⟩, (gt_1 8 rfl rfl), ⟨by decide, by decide⟩, by decide +kernel⟩
set_option maxRecDepth 100000 in
theorem my_X8_writeAll : MYok false yX8_writeAll cX8_writeAll 2 (some .int) 1 := ⟨(gt_4 89 rfl rfl), ⟨(gt_4 88 rfl rfl), Or.inr (gs_3 11 rfl)⟩, (gt_1 8 rfl rfl), ⟨by decide, by decide⟩, by decide +kernel⟩
set_option maxRecDepth 100000 in
theorem my_X8_write : MYok false yX8_write cX8_write 6 none 3 := ⟨(gt_4 93 rfl rfl), ⟨(gt_4 92 rfl rfl), Or.inr (gs_3 12 rfl)⟩, (gt_1 8 rfl rfl), ⟨by decide, by decide⟩, by decide +kernel⟩
set_option maxRecDepth 100000 in
theorem my_X8_bound : MYok false yX8_bound cX8_bound 6 (some .int) 1 := ⟨(gt_4 98 rfl rfl), ⟨(gt_4 97 rfl rfl), Or.inr (gs_3 13 rfl)⟩, (gt_1 8 rfl rfl), ⟨by decide, by decide⟩, by decide +kernel⟩
set_option maxRecDepth 100000 in
theorem my_X8_writeGroups : MYok false yX8_writeGroups cX8_writeGroups 5 none 1 := ⟨(gt_4 108 rfl rfl), ⟨(gt_4 107 rfl rfl), Or.inr (gs_3 15 rfl)⟩, (gt_1 8 rfl rfl), ⟨by decide, by decide⟩, by decide +kernel⟩
set_option maxRecDepth 100000 in
theorem my_X8_writeGroup : MYok false yX8_writeGroup cX8_writeGroup 4 none 2 := ⟨(gt_4 117 rfl rfl), ⟨(gt_4 116 rfl rfl), Or.inr (gs_4 1 rfl)⟩, (gt_1 8 rfl rfl), ⟨by decide, by decide⟩, by decide +kernel⟩
set_option maxRecDepth 100000 in
theorem my_X8_putNumber : MYok false yX8_putNumber cX8_putNumber 2 none 1 := ⟨(gt_4 121 rfl rfl), ⟨(gt_4 120 rfl rfl), Or.inr (gs_4 2 rfl)⟩, (gt_1 8 rfl rfl), ⟨by decide, by decide⟩, by decide +kernel⟩
set_option maxRecDepth 100000 in
theorem my_X8_put : MYok false yX8_put cX8_put 2 none 1 := ⟨(gt_4 112 rfl rfl), ⟨(gt_4 111 rfl rfl), Or.inr (gs_4 0 rfl)⟩, (gt_1 8 rfl rfl), ⟨by decide, by decide⟩, by decide +kernel⟩
set_option maxRecDepth 100000 in
theorem my_X9_init : MYok false yX9_init cX9_init 1 none 0 := ⟨(gt_2 146 rfl rfl), ⟨(gt_2 145 rfl rfl), Or.inl rfl⟩, (gt_1 11 rfl rfl), ⟨by decide, by decide⟩, by decide +kernel⟩
set_option maxRecDepth 100000 in
theorem my_X9_begin : MYok false yX9_begin cX9_begin 4 none 3 := ⟨(gt_4 212 rfl rfl), ⟨(gt_4 211 rfl rfl), Or.inr (gs_5 1 rfl)⟩, (gt_1 11 rfl rfl), ⟨by decide, by decide⟩, by decide +kernel⟩
set_option maxRecDepth 100000 in
theorem my_X9_addMiss : MYok false yX9_addMiss cX9_addMiss 4 none 3 := ⟨(gt_5 10 rfl rfl), ⟨(gt_5 9 rfl rfl), Or.inr (gs_5 10 rfl)⟩, (gt_1 11 rfl rfl), ⟨by decide, by decide⟩, by decide +kernel⟩
set_option maxRecDepth 100000 in
theorem my_X9_insertByPlace : MYok false yX9_insertByPlace cX9_insertByPlace 4 none 2 := ⟨(gt_5 14 rfl rfl), ⟨(gt_5 13 rfl rfl), Or.inr (gs_5 11 rfl)⟩, (gt_1 11 rfl rfl), ⟨by decide, by decide⟩, by decide +kernel⟩
set_option maxRecDepth 100000 in
theorem my_X9_insertAt : MYok false yX9_insertAt cX9_insertAt 5 none 3 := ⟨(gt_4 232 rfl rfl), ⟨(gt_4 231 rfl rfl), Or.inr (gs_5 6 rfl)⟩, (gt_1 11 rfl rfl), ⟨by decide, by decide⟩, by decide +kernel⟩
set_option maxRecDepth 100000 in
theorem my_X9_spread : MYok false yX9_spread cX9_spread 5 none 2 := ⟨(gt_4 224 rfl rfl), ⟨(gt_4 223 rfl rfl), Or.inr (gs_5 4 rfl)⟩, (gt_1 11 rfl rfl), ⟨by decide, by decide⟩, by decide +kernel⟩
set_option maxRecDepth 100000 in
theorem my_X9_splitAtBottom : MYok false yX9_splitAtBottom cX9_splitAtBottom 3 (some .int) 0 := ⟨(gt_4 228 rfl rfl), ⟨(gt_4 227 rfl rfl), Or.inr (gs_5 5 rfl)⟩, (gt_1 11 rfl rfl), ⟨by decide, by decide⟩, by decide +kernel⟩
set_option maxRecDepth 100000 in
theorem my_X9_cutTo : MYok false yX9_cutTo cX9_cutTo 5 (some .boolean) 1 := ⟨(gt_4 236 rfl rfl), ⟨(gt_4 235 rfl rfl), Or.inr (gs_5 7 rfl)⟩, (gt_1 11 rfl rfl), ⟨by decide, by decide⟩, by decide +kernel⟩
set_option maxRecDepth 100000 in
theorem my_X9_dropFirst : MYok false yX9_dropFirst cX9_dropFirst 3 none 1 := ⟨(gt_5 2 rfl rfl), ⟨(gt_5 1 rfl rfl), Or.inr (gs_5 8 rfl)⟩, (gt_1 11 rfl rfl), ⟨by decide, by decide⟩, by decide +kernel⟩
set_option maxRecDepth 100000 in
theorem my_X9_bottom : MYok false yX9_bottom cX9_bottom 3 (some .int) 0 := ⟨(gt_5 18 rfl rfl), ⟨(gt_5 17 rfl rfl), Or.inr (gs_5 12 rfl)⟩, (gt_1 11 rfl rfl), ⟨by decide, by decide⟩, by decide +kernel⟩
set_option maxRecDepth 100000 in
theorem my_X9_bottomCost : MYok false yX9_bottomCost cX9_bottomCost 5 (some .int) 0 := ⟨(gt_4 220 rfl rfl), ⟨(gt_4 219 rfl rfl), Or.inr (gs_5 3 rfl)⟩, (gt_1 11 rfl rfl), ⟨by decide, by decide⟩, by decide +kernel⟩
set_option maxRecDepth 100000 in
theorem my_X10_init : MYok false yX10_init cX10_init 2 none 1 := ⟨(gt_2 104 rfl rfl), ⟨(gt_2 103 rfl rfl), Or.inl rfl⟩, (gt_1 9 rfl rfl), ⟨by decide, by decide⟩, by decide +kernel⟩
set_option maxRecDepth 100000 in
theorem my_X10_hasRoom : MYok false yX10_hasRoom cX10_hasRoom 2 (some .boolean) 1 := ⟨(gt_4 133 rfl rfl), ⟨(gt_4 132 rfl rfl), Or.inr (gs_4 3 rfl)⟩, (gt_1 9 rfl rfl), ⟨by decide, by decide⟩, by decide +kernel⟩
set_option maxRecDepth 100000 in
theorem my_X10_append : MYok false yX10_append cX10_append 3 none 1 := ⟨(gt_4 137 rfl rfl), ⟨(gt_4 136 rfl rfl), Or.inr (gs_4 4 rfl)⟩, (gt_1 9 rfl rfl), ⟨by decide, by decide⟩, by decide +kernel⟩
set_option maxRecDepth 100000 in
theorem my_X10_holdsProof : MYok false yX10_holdsProof cX10_holdsProof 2 (some .boolean) 1 := ⟨(gt_4 149 rfl rfl), ⟨(gt_4 148 rfl rfl), Or.inr (gs_4 5 rfl)⟩, (gt_1 9 rfl rfl), ⟨by decide, by decide⟩, by decide +kernel⟩
set_option maxRecDepth 100000 in
theorem my_X10_step : MYok false yX10_step cX10_step 1 none 0 := ⟨(gt_4 153 rfl rfl), ⟨(gt_4 152 rfl rfl), Or.inr (gs_4 6 rfl)⟩, (gt_1 9 rfl rfl), ⟨by decide, by decide⟩, by decide +kernel⟩
set_option maxRecDepth 100000 in
theorem my_X10_readNumber : MYok false yX10_readNumber cX10_readNumber 1 none 0 := ⟨(gt_4 160 rfl rfl), ⟨(gt_4 159 rfl rfl), Or.inr (gs_4 7 rfl)⟩, (gt_1 9 rfl rfl), ⟨by decide, by decide⟩, by decide +kernel⟩
set_option maxRecDepth 100000 in
theorem my_X10_isDigit : MYok true yX10_isDigit cX10_isDigit 1 (some .boolean) 1 := ⟨(gt_4 156 rfl rfl), (gt_4 155 rfl rfl), (gt_1 9 rfl rfl), ⟨by decide, by decide⟩, by decide +kernel⟩
set_option maxRecDepth 100000 in
theorem my_X10_fail : MYok false yX10_fail cX10_fail 1 (some .boolean) 0 := ⟨(gt_4 169 rfl rfl), ⟨(gt_4 168 rfl rfl), Or.inr (gs_4 9 rfl)⟩, (gt_1 9 rfl rfl), ⟨by decide, by decide⟩, by decide +kernel⟩
set_option maxRecDepth 100000 in
theorem my_X10_expect : MYok false yX10_expect cX10_expect 2 (some .boolean) 1 := ⟨(gt_4 185 rfl rfl), ⟨(gt_4 184 rfl rfl), Or.inr (gs_4 13 rfl)⟩, (gt_1 9 rfl rfl), ⟨by decide, by decide⟩, by decide +kernel⟩
set_option maxRecDepth 100000 in
theorem my_X10_isLogOf : MYok false yX10_isLogOf cX10_isLogOf 2 (some .boolean) 1 := ⟨(gt_4 181 rfl rfl), ⟨(gt_4 180 rfl rfl), Or.inr (gs_4 12 rfl)⟩, (gt_1 9 rfl rfl), ⟨by decide, by decide⟩, by decide +kernel⟩
set_option maxRecDepth 100000 in
theorem my_X10_readProof : MYok false yX10_readProof cX10_readProof 6 (some .boolean) 3 := ⟨(gt_4 165 rfl rfl), ⟨(gt_4 164 rfl rfl), Or.inr (gs_4 8 rfl)⟩, (gt_1 9 rfl rfl), ⟨by decide, by decide⟩, by decide +kernel⟩
set_option maxRecDepth 100000 in
theorem my_X10_readGroups : MYok false yX10_readGroups cX10_readGroups 7 (some .boolean) 2 := ⟨(gt_4 173 rfl rfl), ⟨(gt_4 172 rfl rfl), Or.inr (gs_4 10 rfl)⟩, (gt_1 9 rfl rfl), ⟨by decide, by decide⟩, by decide +kernel⟩
set_option maxRecDepth 100000 in
theorem my_X10_readGroup : MYok false yX10_readGroup cX10_readGroup 4 (some .int) 1 := ⟨(gt_4 177 rfl rfl), ⟨(gt_4 176 rfl rfl), Or.inr (gs_4 11 rfl)⟩, (gt_1 9 rfl rfl), ⟨by decide, by decide⟩, by decide +kernel⟩
set_option maxRecDepth 100000 in
theorem my_X11_init : MYok false yX11_init cX11_init 2 none 0 := ⟨(gt_1 21 rfl rfl), ⟨(gt_1 20 rfl rfl), Or.inl rfl⟩, (gt_1 1 rfl rfl), ⟨by decide, by decide⟩, by decide +kernel⟩
set_option maxRecDepth 100000 in
theorem my_X11_table : MYok false yX11_table cX11_table 5 (some .int) 4 := ⟨(gt_3 40 rfl rfl), ⟨(gt_3 38 rfl rfl), Or.inr (gt_3 39 rfl rfl)⟩, (gt_1 1 rfl rfl), ⟨by decide, by decide⟩, by decide +kernel⟩
set_option maxRecDepth 100000 in
theorem my_X11_ship : MYok false yX11_ship cX11_ship 2 (some .int) 1 := ⟨(gt_3 59 rfl rfl), ⟨(gt_3 57 rfl rfl), Or.inr (gt_3 58 rfl rfl)⟩, (gt_1 1 rfl rfl), ⟨by decide, by decide⟩, by decide +kernel⟩
set_option maxRecDepth 100000 in
theorem my_X11_leg : MYok false yX11_leg cX11_leg 7 (some .int) 6 := ⟨(gt_3 63 rfl rfl), ⟨(gt_3 61 rfl rfl), Or.inr (gt_3 62 rfl rfl)⟩, (gt_1 1 rfl rfl), ⟨by decide, by decide⟩, by decide +kernel⟩
set_option maxRecDepth 100000 in
theorem my_X11_cleaned : MYok false yX11_cleaned cX11_cleaned 4 (some .int) 3 := ⟨(gt_3 78 rfl rfl), ⟨(gt_3 76 rfl rfl), Or.inr (gt_3 77 rfl rfl)⟩, (gt_1 1 rfl rfl), ⟨by decide, by decide⟩, by decide +kernel⟩
set_option maxRecDepth 100000 in
theorem my_X11_terms : MYok false yX11_terms cX11_terms 3 (some .int) 2 := ⟨(gt_3 90 rfl rfl), ⟨(gt_3 88 rfl rfl), Or.inr (gt_3 89 rfl rfl)⟩, (gt_1 1 rfl rfl), ⟨by decide, by decide⟩, by decide +kernel⟩
set_option maxRecDepth 100000 in
theorem my_X11_log : MYok false yX11_log cX11_log 7 (some .int) 6 := ⟨(gt_3 95 rfl rfl), ⟨(gt_3 93 rfl rfl), Or.inr (gt_3 94 rfl rfl)⟩, (gt_1 1 rfl rfl), ⟨by decide, by decide⟩, by decide +kernel⟩
set_option maxRecDepth 100000 in
theorem my_X11_look : MYok false yX11_look cX11_look 7 (some .int) 6 := ⟨(gt_3 144 rfl rfl), ⟨(gt_3 142 rfl rfl), Or.inr (gt_3 143 rfl rfl)⟩, (gt_1 1 rfl rfl), ⟨by decide, by decide⟩, by decide +kernel⟩
set_option maxRecDepth 100000 in
theorem my_X11_of : MYok false yX11_of cX11_of 4 (some .int) 2 := ⟨(gt_3 148 rfl rfl), ⟨(gt_3 146 rfl rfl), Or.inr (gt_3 147 rfl rfl)⟩, (gt_1 1 rfl rfl), ⟨by decide, by decide⟩, by decide +kernel⟩
set_option maxRecDepth 100000 in
theorem my_X11_leave : MYok false yX11_leave cX11_leave 3 (some .int) 2 := ⟨(gt_3 156 rfl rfl), ⟨(gt_3 154 rfl rfl), Or.inr (gt_3 155 rfl rfl)⟩, (gt_1 1 rfl rfl), ⟨by decide, by decide⟩, by decide +kernel⟩
set_option maxRecDepth 100000 in
theorem my_X11_law : MYok false yX11_law cX11_law 4 (some .int) 3 := ⟨(gt_3 160 rfl rfl), ⟨(gt_3 158 rfl rfl), Or.inr (gt_3 159 rfl rfl)⟩, (gt_1 1 rfl rfl), ⟨by decide, by decide⟩, by decide +kernel⟩
set_option maxRecDepth 100000 in
theorem my_X11_share : MYok false yX11_share cX11_share 5 (some .int) 4 := ⟨(gt_3 164 rfl rfl), ⟨(gt_3 162 rfl rfl), Or.inr (gt_3 163 rfl rfl)⟩, (gt_1 1 rfl rfl), ⟨by decide, by decide⟩, by decide +kernel⟩
set_option maxRecDepth 100000 in
theorem my_X11_span : MYok false yX11_span cX11_span 5 (some .int) 4 := ⟨(gt_3 177 rfl rfl), ⟨(gt_3 175 rfl rfl), Or.inr (gt_3 176 rfl rfl)⟩, (gt_1 1 rfl rfl), ⟨by decide, by decide⟩, by decide +kernel⟩
set_option maxRecDepth 100000 in
theorem my_X11_why : MYok false yX11_why cX11_why 5 (some .int) 4 := ⟨(gt_3 205 rfl rfl), ⟨(gt_3 203 rfl rfl), Or.inr (gt_3 204 rfl rfl)⟩, (gt_1 1 rfl rfl), ⟨by decide, by decide⟩, by decide +kernel⟩
set_option maxRecDepth 100000 in
theorem my_X11_lost : MYok false yX11_lost cX11_lost 9 (some .long) 5 := ⟨(gt_3 215 rfl rfl), ⟨(gt_3 213 rfl rfl), Or.inr (gt_3 214 rfl rfl)⟩, (gt_1 1 rfl rfl), ⟨by decide, by decide⟩, by decide +kernel⟩
set_option maxRecDepth 100000 in
theorem my_X11_widest : MYok false yX11_widest cX11_widest 7 (some .int) 4 := ⟨(gt_3 227 rfl rfl), ⟨(gt_3 225 rfl rfl), Or.inr (gt_3 226 rfl rfl)⟩, (gt_1 1 rfl rfl), ⟨by decide, by decide⟩, by decide +kernel⟩
set_option maxRecDepth 100000 in
theorem my_X11_quarrels : MYok false yX11_quarrels cX11_quarrels 4 (some .int) 3 := ⟨(gt_3 235 rfl rfl), ⟨(gt_3 233 rfl rfl), Or.inr (gt_3 234 rfl rfl)⟩, (gt_1 1 rfl rfl), ⟨by decide, by decide⟩, by decide +kernel⟩
set_option maxRecDepth 100000 in
theorem my_X11_quarrel : MYok false yX11_quarrel cX11_quarrel 3 (some .int) 2 := ⟨(gt_4 24 rfl rfl), ⟨(gt_4 22 rfl rfl), Or.inr (gt_4 23 rfl rfl)⟩, (gt_1 1 rfl rfl), ⟨by decide, by decide⟩, by decide +kernel⟩
set_option maxRecDepth 100000 in
theorem my_X11_right : MYok false yX11_right cX11_right 3 (some .int) 2 := ⟨(gt_4 32 rfl rfl), ⟨(gt_4 30 rfl rfl), Or.inr (gt_4 31 rfl rfl)⟩, (gt_1 1 rfl rfl), ⟨by decide, by decide⟩, by decide +kernel⟩
set_option maxRecDepth 100000 in
theorem my_X11_isRight : MYok false yX11_isRight cX11_isRight 2 (some .int) 1 := ⟨(gt_4 81 rfl rfl), ⟨(gt_4 79 rfl rfl), Or.inr (gt_4 80 rfl rfl)⟩, (gt_1 1 rfl rfl), ⟨by decide, by decide⟩, by decide +kernel⟩
set_option maxRecDepth 100000 in
theorem my_X11_prove : MYok false yX11_prove cX11_prove 3 (some .int) 2 := ⟨(gt_4 85 rfl rfl), ⟨(gt_4 83 rfl rfl), Or.inr (gt_4 84 rfl rfl)⟩, (gt_1 1 rfl rfl), ⟨by decide, by decide⟩, by decide +kernel⟩
set_option maxRecDepth 100000 in
theorem my_X11_proof : MYok false yX11_proof cX11_proof 2 (some .int) 1 := ⟨(gt_4 125 rfl rfl), ⟨(gt_4 123 rfl rfl), Or.inr (gt_4 124 rfl rfl)⟩, (gt_1 1 rfl rfl), ⟨by decide, by decide⟩, by decide +kernel⟩
set_option maxRecDepth 100000 in
theorem my_X11_feed : MYok false yX11_feed cX11_feed 6 (some .int) 5 := ⟨(gt_4 129 rfl rfl), ⟨(gt_4 127 rfl rfl), Or.inr (gt_4 128 rfl rfl)⟩, (gt_1 1 rfl rfl), ⟨by decide, by decide⟩, by decide +kernel⟩
set_option maxRecDepth 100000 in
theorem my_X11_end : MYok false yX11_end cX11_end 2 (some .int) 1 := ⟨(gt_4 141 rfl rfl), ⟨(gt_4 139 rfl rfl), Or.inr (gt_4 140 rfl rfl)⟩, (gt_1 1 rfl rfl), ⟨by decide, by decide⟩, by decide +kernel⟩
set_option maxRecDepth 100000 in
theorem my_X11_check : MYok false yX11_check cX11_check 5 (some .int) 3 := ⟨(gt_4 145 rfl rfl), ⟨(gt_4 143 rfl rfl), Or.inr (gt_4 144 rfl rfl)⟩, (gt_1 1 rfl rfl), ⟨by decide, by decide⟩, by decide +kernel⟩
set_option maxRecDepth 100000 in
theorem my_X11_fault : MYok false yX11_fault cX11_fault 1 (some .int) 0 := ⟨(gt_4 191 rfl rfl), ⟨(gt_4 189 rfl rfl), Or.inr (gt_4 190 rfl rfl)⟩, (gt_1 1 rfl rfl), ⟨by decide, by decide⟩, by decide +kernel⟩
set_option maxRecDepth 100000 in
theorem my_X11_miss : MYok false yX11_miss cX11_miss 3 (some .int) 2 := ⟨(gt_4 195 rfl rfl), ⟨(gt_4 193 rfl rfl), Or.inr (gt_4 194 rfl rfl)⟩, (gt_1 1 rfl rfl), ⟨by decide, by decide⟩, by decide +kernel⟩
set_option maxRecDepth 100000 in
theorem my_X11_curve : MYok false yX11_curve cX11_curve 2 (some .int) 1 := ⟨(gt_5 28 rfl rfl), ⟨(gt_5 26 rfl rfl), Or.inr (gt_5 27 rfl rfl)⟩, (gt_1 1 rfl rfl), ⟨by decide, by decide⟩, by decide +kernel⟩
set_option maxRecDepth 100000 in
theorem my_X11_hidden : MYok false yX11_hidden cX11_hidden 4 (some .int) 3 := ⟨(gt_5 32 rfl rfl), ⟨(gt_5 30 rfl rfl), Or.inr (gt_5 31 rfl rfl)⟩, (gt_1 1 rfl rfl), ⟨by decide, by decide⟩, by decide +kernel⟩
set_option maxRecDepth 100000 in
theorem my_X11_hid : MYok false yX11_hid cX11_hid 2 (some .int) 1 := ⟨(gt_5 60 rfl rfl), ⟨(gt_5 58 rfl rfl), Or.inr (gt_5 59 rfl rfl)⟩, (gt_1 1 rfl rfl), ⟨by decide, by decide⟩, by decide +kernel⟩
set_option maxRecDepth 100000 in
theorem my_X11_call : MYok false yX11_call cX11_call 2 (some .int) 1 := ⟨(gt_5 64 rfl rfl), ⟨(gt_5 62 rfl rfl), Or.inr (gt_5 63 rfl rfl)⟩, (gt_1 1 rfl rfl), ⟨by decide, by decide⟩, by decide +kernel⟩
set_option maxRecDepth 100000 in
theorem my_X11_clear : MYok false yX11_clear cX11_clear 2 (some .int) 0 := ⟨(gt_5 72 rfl rfl), ⟨(gt_5 70 rfl rfl), Or.inr (gt_5 71 rfl rfl)⟩, (gt_1 1 rfl rfl), ⟨by decide, by decide⟩, by decide +kernel⟩
set_option maxRecDepth 100000 in
theorem my_X11_plan : MYok false yX11_plan cX11_plan 5 (some .int) 4 := ⟨(gt_5 80 rfl rfl), ⟨(gt_5 78 rfl rfl), Or.inr (gt_5 79 rfl rfl)⟩, (gt_1 1 rfl rfl), ⟨by decide, by decide⟩, by decide +kernel⟩
set_option maxRecDepth 100000 in
theorem my_X11_judge : MYok false yX11_judge cX11_judge 6 (some .long) 5 := ⟨(gt_5 96 rfl rfl), ⟨(gt_5 94 rfl rfl), Or.inr (gt_5 95 rfl rfl)⟩, (gt_1 1 rfl rfl), ⟨by decide, by decide⟩, by decide +kernel⟩
set_option maxRecDepth 100000 in
theorem my_X11_seal : MYok false yX11_seal cX11_seal 2 (some .int) 0 := ⟨(gt_5 101 rfl rfl), ⟨(gt_5 99 rfl rfl), Or.inr (gt_5 100 rfl rfl)⟩, (gt_1 1 rfl rfl), ⟨by decide, by decide⟩, by decide +kernel⟩
set_option maxRecDepth 100000 in
theorem my_X11_alter : MYok false yX11_alter cX11_alter 3 (some .int) 2 := ⟨(gt_5 113 rfl rfl), ⟨(gt_5 111 rfl rfl), Or.inr (gt_5 112 rfl rfl)⟩, (gt_1 1 rfl rfl), ⟨by decide, by decide⟩, by decide +kernel⟩
set_option maxRecDepth 100000 in
theorem my_X11_found : MYok false yX11_found cX11_found 7 (some .int) 0 := ⟨(gt_5 117 rfl rfl), ⟨(gt_5 115 rfl rfl), Or.inr (gt_5 116 rfl rfl)⟩, (gt_1 1 rfl rfl), ⟨by decide, by decide⟩, by decide +kernel⟩
set_option maxRecDepth 100000 in
theorem my_X11_image : MYok false yX11_image cX11_image 2 (some .int) 1 := ⟨(gt_5 121 rfl rfl), ⟨(gt_5 119 rfl rfl), Or.inr (gt_5 120 rfl rfl)⟩, (gt_1 1 rfl rfl), ⟨by decide, by decide⟩, by decide +kernel⟩
set_option maxRecDepth 100000 in
theorem my_X11_back : MYok false yX11_back cX11_back 2 (some .int) 1 := ⟨(gt_5 142 rfl rfl), ⟨(gt_5 140 rfl rfl), Or.inr (gt_5 141 rfl rfl)⟩, (gt_1 1 rfl rfl), ⟨by decide, by decide⟩, by decide +kernel⟩
set_option maxRecDepth 100000 in
theorem my_X11_count : MYok false yX11_count cX11_count 2 (some .int) 1 := ⟨(gt_5 146 rfl rfl), ⟨(gt_5 144 rfl rfl), Or.inr (gt_5 145 rfl rfl)⟩, (gt_1 1 rfl rfl), ⟨by decide, by decide⟩, by decide +kernel⟩
set_option maxRecDepth 100000 in
theorem my_X11_status : MYok false yX11_status cX11_status 1 (some .int) 0 := ⟨(gt_5 150 rfl rfl), ⟨(gt_5 148 rfl rfl), Or.inr (gt_5 149 rfl rfl)⟩, (gt_1 1 rfl rfl), ⟨by decide, by decide⟩, by decide +kernel⟩
set_option maxRecDepth 100000 in
theorem my_X11_refuse : MYok false yX11_refuse cX11_refuse 2 (some .int) 1 := ⟨(gt_3 47 rfl rfl), ⟨(gt_3 46 rfl rfl), Or.inr (gs_1 0 rfl)⟩, (gt_1 1 rfl rfl), ⟨by decide, by decide⟩, by decide +kernel⟩
set_option maxRecDepth 100000 in
theorem my_X11_accept : MYok false yX11_accept cX11_accept 2 (some .int) 1 := ⟨(gt_3 55 rfl rfl), ⟨(gt_3 54 rfl rfl), Or.inr (gs_1 2 rfl)⟩, (gt_1 1 rfl rfl), ⟨by decide, by decide⟩, by decide +kernel⟩
set_option maxRecDepth 100000 in
theorem my_X11_within : MYok true yX11_within cX11_within 3 (some .boolean) 3 := ⟨(gt_3 43 rfl rfl), (gt_3 42 rfl rfl), (gt_1 1 rfl rfl), ⟨by decide, by decide⟩, by decide +kernel⟩
set_option maxRecDepth 100000 in
theorem my_X11_isDay : MYok true yX11_isDay cX11_isDay 1 (some .boolean) 1 := ⟨(gt_3 66 rfl rfl), (gt_3 65 rfl rfl), (gt_1 1 rfl rfl), ⟨by decide, by decide⟩, by decide +kernel⟩
set_option maxRecDepth 100000 in
theorem my_X11_isStretch : MYok true yX11_isStretch cX11_isStretch 2 (some .boolean) 2 := ⟨(gt_3 218 rfl rfl), (gt_3 217 rfl rfl), (gt_1 1 rfl rfl), ⟨by decide, by decide⟩, by decide +kernel⟩
set_option maxRecDepth 100000 in
theorem my_X11_isShip : MYok false yX11_isShip cX11_isShip 2 (some .boolean) 1 := ⟨(gt_3 70 rfl rfl), ⟨(gt_3 69 rfl rfl), Or.inr (gs_1 3 rfl)⟩, (gt_1 1 rfl rfl), ⟨by decide, by decide⟩, by decide +kernel⟩
set_option maxRecDepth 100000 in
theorem my_X11_isLog : MYok false yX11_isLog cX11_isLog 2 (some .boolean) 1 := ⟨(gt_3 152 rfl rfl), ⟨(gt_3 151 rfl rfl), Or.inr (gs_2 0 rfl)⟩, (gt_1 1 rfl rfl), ⟨by decide, by decide⟩, by decide +kernel⟩
set_option maxRecDepth 100000 in
theorem my_X11_isReadable : MYok false yX11_isReadable cX11_isReadable 2 (some .boolean) 1 := ⟨(gt_4 28 rfl rfl), ⟨(gt_4 27 rfl rfl), Or.inr (gs_3 0 rfl)⟩, (gt_1 1 rfl rfl), ⟨by decide, by decide⟩, by decide +kernel⟩
set_option maxRecDepth 100000 in
theorem my_X11_bindAsKnown : MYok false yX11_bindAsKnown cX11_bindAsKnown 3 (some .boolean) 2 := ⟨(gt_3 181 rfl rfl), ⟨(gt_3 180 rfl rfl), Or.inr (gs_2 3 rfl)⟩, (gt_1 1 rfl rfl), ⟨by decide, by decide⟩, by decide +kernel⟩
set_option maxRecDepth 100000 in
theorem my_X11_addLog : MYok false yX11_addLog cX11_addLog 10 (some .int) 7 := ⟨(gt_3 140 rfl rfl), ⟨(gt_3 139 rfl rfl), Or.inr (gs_1 15 rfl)⟩, (gt_1 1 rfl rfl), ⟨by decide, by decide⟩, by decide +kernel⟩
set_option maxRecDepth 100000 in
theorem my_X12_in : MYok true yX12_in cX12_in 3 (some .boolean) 3 := ⟨(gt_6 70 rfl rfl), (gt_6 69 rfl rfl), (gt_1 13 rfl rfl), ⟨by decide, by decide⟩, by decide +kernel⟩
set_option maxRecDepth 100000 in
theorem my_X12_isDay : MYok true yX12_isDay cX12_isDay 1 (some .boolean) 1 := ⟨(gt_6 97 rfl rfl), (gt_6 96 rfl rfl), (gt_1 13 rfl rfl), ⟨by decide, by decide⟩, by decide +kernel⟩
set_option maxRecDepth 100000 in
theorem my_X12_ends : MYok false yX12_ends cX12_ends 2 (some .int) 1 := ⟨(gt_6 74 rfl rfl), ⟨(gt_6 73 rfl rfl), Or.inr (gs_6 13 rfl)⟩, (gt_1 13 rfl rfl), ⟨by decide, by decide⟩, by decide +kernel⟩
set_option maxRecDepth 100000 in
theorem my_X12_init : MYok false yX12_init cX12_init 2 none 0 := ⟨(gt_5 155 rfl rfl), ⟨(gt_5 154 rfl rfl), Or.inl rfl⟩, (gt_1 13 rfl rfl), ⟨by decide, by decide⟩, by decide +kernel⟩
set_option maxRecDepth 100000 in
theorem my_X12_many : MYok false yX12_many cX12_many 2 (some .int) 1 := ⟨(gt_6 90 rfl rfl), ⟨(gt_6 89 rfl rfl), Or.inr (gs_6 14 rfl)⟩, (gt_1 13 rfl rfl), ⟨by decide, by decide⟩, by decide +kernel⟩
set_option maxRecDepth 100000 in
theorem my_X12_isShip : MYok false yX12_isShip cX12_isShip 2 (some .boolean) 1 := ⟨(gt_6 101 rfl rfl), ⟨(gt_6 100 rfl rfl), Or.inr (gs_6 15 rfl)⟩, (gt_1 13 rfl rfl), ⟨by decide, by decide⟩, by decide +kernel⟩
set_option maxRecDepth 100000 in
theorem my_X12_isLog : MYok false yX12_isLog cX12_isLog 2 (some .boolean) 1 := ⟨(gt_6 174 rfl rfl), ⟨(gt_6 173 rfl rfl), Or.inr (gs_7 10 rfl)⟩, (gt_1 13 rfl rfl), ⟨by decide, by decide⟩, by decide +kernel⟩
set_option maxRecDepth 100000 in
theorem my_X12_legAt : MYok false yX12_legAt cX12_legAt 3 (some .int) 2 := ⟨(gt_6 142 rfl rfl), ⟨(gt_6 141 rfl rfl), Or.inr (gs_7 6 rfl)⟩, (gt_1 13 rfl rfl), ⟨by decide, by decide⟩, by decide +kernel⟩
set_option maxRecDepth 100000 in
theorem my_X12_clean : MYok false yX12_clean cX12_clean 3 (some .int) 2 := ⟨(gt_6 113 rfl rfl), ⟨(gt_6 112 rfl rfl), Or.inr (gs_7 1 rfl)⟩, (gt_1 13 rfl rfl), ⟨by decide, by decide⟩, by decide +kernel⟩
set_option maxRecDepth 100000 in
theorem my_X12_logAt : MYok false yX12_logAt cX12_logAt 3 (some .int) 2 := ⟨(gt_6 178 rfl rfl), ⟨(gt_6 177 rfl rfl), Or.inr (gs_7 11 rfl)⟩, (gt_1 13 rfl rfl), ⟨by decide, by decide⟩, by decide +kernel⟩
set_option maxRecDepth 100000 in
theorem my_X12_image : MYok false yX12_image cX12_image 3 (some .int) 1 := ⟨(gt_6 67 rfl rfl), ⟨(gt_6 65 rfl rfl), Or.inr (gt_6 66 rfl rfl)⟩, (gt_1 13 rfl rfl), ⟨by decide, by decide⟩, by decide +kernel⟩
set_option maxRecDepth 100000 in
theorem my_X12_back : MYok false yX12_back cX12_back 3 (some .int) 1 := ⟨(gt_6 78 rfl rfl), ⟨(gt_6 76 rfl rfl), Or.inr (gt_6 77 rfl rfl)⟩, (gt_1 13 rfl rfl), ⟨by decide, by decide⟩, by decide +kernel⟩
set_option maxRecDepth 100000 in
theorem my_X12_table : MYok false yX12_table cX12_table 7 (some .int) 4 := ⟨(gt_6 82 rfl rfl), ⟨(gt_6 80 rfl rfl), Or.inr (gt_6 81 rfl rfl)⟩, (gt_1 13 rfl rfl), ⟨by decide, by decide⟩, by decide +kernel⟩
set_option maxRecDepth 100000 in
theorem my_X12_ship : MYok false yX12_ship cX12_ship 2 (some .int) 1 := ⟨(gt_6 86 rfl rfl), ⟨(gt_6 84 rfl rfl), Or.inr (gt_6 85 rfl rfl)⟩, (gt_1 13 rfl rfl), ⟨by decide, by decide⟩, by decide +kernel⟩
set_option maxRecDepth 100000 in
theorem my_X12_leg : MYok false yX12_leg cX12_leg 8 (some .int) 6 := ⟨(gt_6 94 rfl rfl), ⟨(gt_6 92 rfl rfl), Or.inr (gt_6 93 rfl rfl)⟩, (gt_1 13 rfl rfl), ⟨by decide, by decide⟩, by decide +kernel⟩
set_option maxRecDepth 100000 in
theorem my_X12_cleaned : MYok false yX12_cleaned cX12_cleaned 5 (some .int) 3 := ⟨(gt_6 105 rfl rfl), ⟨(gt_6 103 rfl rfl), Or.inr (gt_6 104 rfl rfl)⟩, (gt_1 13 rfl rfl), ⟨by decide, by decide⟩, by decide +kernel⟩
set_option maxRecDepth 100000 in
theorem my_X12_terms : MYok false yX12_terms cX12_terms 3 (some .int) 2 := ⟨(gt_6 117 rfl rfl), ⟨(gt_6 115 rfl rfl), Or.inr (gt_6 116 rfl rfl)⟩, (gt_1 13 rfl rfl), ⟨by decide, by decide⟩, by decide +kernel⟩
set_option maxRecDepth 100000 in
theorem my_X12_legOn : MYok false yX12_legOn cX12_legOn 5 (some .int) 2 := ⟨(gt_6 138 rfl rfl), ⟨(gt_6 137 rfl rfl), Or.inr (gs_7 5 rfl)⟩, (gt_1 13 rfl rfl), ⟨by decide, by decide⟩, by decide +kernel⟩
set_option maxRecDepth 100000 in
theorem my_X12_onDay : MYok false yX12_onDay cX12_onDay 5 (some .int) 3 := ⟨(gt_6 134 rfl rfl), ⟨(gt_6 133 rfl rfl), Or.inr (gs_7 4 rfl)⟩, (gt_1 13 rfl rfl), ⟨by decide, by decide⟩, by decide +kernel⟩
set_option maxRecDepth 100000 in
theorem my_X12_leftOn : MYok false yX12_leftOn cX12_leftOn 4 (some .int) 2 := ⟨(gt_6 109 rfl rfl), ⟨(gt_6 108 rfl rfl), Or.inr (gs_7 0 rfl)⟩, (gt_1 13 rfl rfl), ⟨by decide, by decide⟩, by decide +kernel⟩
set_option maxRecDepth 100000 in
theorem my_X12_speedOn : MYok false yX12_speedOn cX12_speedOn 3 (some .int) 2 := ⟨(gt_6 130 rfl rfl), ⟨(gt_6 129 rfl rfl), Or.inr (gs_7 3 rfl)⟩, (gt_1 13 rfl rfl), ⟨by decide, by decide⟩, by decide +kernel⟩
set_option maxRecDepth 100000 in
theorem my_X12_byTable : MYok false yX12_byTable cX12_byTable 5 (some .int) 3 := ⟨(gt_6 126 rfl rfl), ⟨(gt_6 125 rfl rfl), Or.inr (gs_7 2 rfl)⟩, (gt_1 13 rfl rfl), ⟨by decide, by decide⟩, by decide +kernel⟩
set_option maxRecDepth 100000 in
theorem my_X12_law : MYok false yX12_law cX12_law 4 (some .int) 3 := ⟨(gt_6 122 rfl rfl), ⟨(gt_6 120 rfl rfl), Or.inr (gt_6 121 rfl rfl)⟩, (gt_1 13 rfl rfl), ⟨by decide, by decide⟩, by decide +kernel⟩
set_option maxRecDepth 100000 in
theorem my_X12_portion : MYok false yX12_portion cX12_portion 6 (some .int) 4 := ⟨(gt_6 154 rfl rfl), ⟨(gt_6 153 rfl rfl), Or.inr (gs_7 8 rfl)⟩, (gt_1 13 rfl rfl), ⟨by decide, by decide⟩, by decide +kernel⟩
set_option maxRecDepth 100000 in
theorem my_X12_fuel : MYok false yX12_fuel cX12_fuel 4 (some .int) 3 := ⟨(gt_6 150 rfl rfl), ⟨(gt_6 149 rfl rfl), Or.inr (gs_7 7 rfl)⟩, (gt_1 13 rfl rfl), ⟨by decide, by decide⟩, by decide +kernel⟩
set_option maxRecDepth 100000 in
theorem my_X12_share : MYok false yX12_share cX12_share 11 (some .int) 4 := ⟨(gt_6 146 rfl rfl), ⟨(gt_6 144 rfl rfl), Or.inr (gt_6 145 rfl rfl)⟩, (gt_1 13 rfl rfl), ⟨by decide, by decide⟩, by decide +kernel⟩
set_option maxRecDepth 100000 in
theorem my_X12_skin : MYok false yX12_skin cX12_skin 4 (some .int) 3 := ⟨(gt_6 227 rfl rfl), ⟨(gt_6 226 rfl rfl), Or.inr (gs_8 3 rfl)⟩, (gt_1 13 rfl rfl), ⟨by decide, by decide⟩, by decide +kernel⟩
set_option maxRecDepth 100000 in
theorem my_X12_adds : MYok false yX12_adds cX12_adds 10 (some .int) 7 := ⟨(gt_6 162 rfl rfl), ⟨(gt_6 161 rfl rfl), Or.inr (gs_7 9 rfl)⟩, (gt_1 13 rfl rfl), ⟨by decide, by decide⟩, by decide +kernel⟩
set_option maxRecDepth 100000 in
theorem my_X12_log : MYok false yX12_log cX12_log 7 (some .int) 6 := ⟨(gt_6 158 rfl rfl), ⟨(gt_6 156 rfl rfl), Or.inr (gt_6 157 rfl rfl)⟩, (gt_1 13 rfl rfl), ⟨by decide, by decide⟩, by decide +kernel⟩
set_option maxRecDepth 100000 in
theorem my_X12_look : MYok false yX12_look cX12_look 7 (some .int) 6 := ⟨(gt_6 166 rfl rfl), ⟨(gt_6 164 rfl rfl), Or.inr (gt_6 165 rfl rfl)⟩, (gt_1 13 rfl rfl), ⟨by decide, by decide⟩, by decide +kernel⟩
set_option maxRecDepth 100000 in
theorem my_X12_readAs : MYok false yX12_readAs cX12_readAs 6 (some .int) 2 := ⟨(gt_6 182 rfl rfl), ⟨(gt_6 181 rfl rfl), Or.inr (gs_7 12 rfl)⟩, (gt_1 13 rfl rfl), ⟨by decide, by decide⟩, by decide +kernel⟩
set_option maxRecDepth 100000 in
theorem my_X12_of : MYok false yX12_of cX12_of 3 (some .int) 2 := ⟨(gt_6 170 rfl rfl), ⟨(gt_6 168 rfl rfl), Or.inr (gt_6 169 rfl rfl)⟩, (gt_1 13 rfl rfl), ⟨by decide, by decide⟩, by decide +kernel⟩
set_option maxRecDepth 100000 in
theorem my_X12_leave : MYok false yX12_leave cX12_leave 3 (some .int) 2 := ⟨(gt_6 186 rfl rfl), ⟨(gt_6 184 rfl rfl), Or.inr (gt_6 185 rfl rfl)⟩, (gt_1 13 rfl rfl), ⟨by decide, by decide⟩, by decide +kernel⟩
set_option maxRecDepth 100000 in
theorem my_X12_counting : MYok false yX12_counting cX12_counting 5 (some .int) 2 := ⟨(gt_6 198 rfl rfl), ⟨(gt_6 197 rfl rfl), Or.inr (gs_7 14 rfl)⟩, (gt_1 13 rfl rfl), ⟨by decide, by decide⟩, by decide +kernel⟩
set_option maxRecDepth 100000 in
theorem my_X12_alone : MYok false yX12_alone cX12_alone 8 none 3 := ⟨(gt_6 206 rfl rfl), ⟨(gt_6 205 rfl rfl), Or.inr (gs_8 0 rfl)⟩, (gt_1 13 rfl rfl), ⟨by decide, by decide⟩, by decide +kernel⟩
set_option maxRecDepth 100000 in
theorem my_X12_meets : MYok false yX12_meets cX12_meets 3 none 2 := ⟨(gt_6 210 rfl rfl), ⟨(gt_6 209 rfl rfl), Or.inr (gs_8 1 rfl)⟩, (gt_1 13 rfl rfl), ⟨by decide, by decide⟩, by decide +kernel⟩
set_option maxRecDepth 100000 in
theorem my_X12_spans : MYok false yX12_spans cX12_spans 4 (some .boolean) 2 := ⟨(gt_6 202 rfl rfl), ⟨(gt_6 201 rfl rfl), Or.inr (gs_7 15 rfl)⟩, (gt_1 13 rfl rfl), ⟨by decide, by decide⟩, by decide +kernel⟩
set_option maxRecDepth 100000 in
theorem my_X12_isAsked : MYok false yX12_isAsked cX12_isAsked 4 (some .boolean) 3 := ⟨(gt_6 194 rfl rfl), ⟨(gt_6 193 rfl rfl), Or.inr (gs_7 13 rfl)⟩, (gt_1 13 rfl rfl), ⟨by decide, by decide⟩, by decide +kernel⟩
set_option maxRecDepth 100000 in
theorem my_X12_endOf : MYok false yX12_endOf cX12_endOf 3 (some .int) 2 := ⟨(gt_6 214 rfl rfl), ⟨(gt_6 213 rfl rfl), Or.inr (gs_8 2 rfl)⟩, (gt_1 13 rfl rfl), ⟨by decide, by decide⟩, by decide +kernel⟩
set_option maxRecDepth 100000 in
theorem my_X12_span : MYok false yX12_span cX12_span 5 (some .int) 4 := ⟨(gt_6 190 rfl rfl), ⟨(gt_6 188 rfl rfl), Or.inr (gt_6 189 rfl rfl)⟩, (gt_1 13 rfl rfl), ⟨by decide, by decide⟩, by decide +kernel⟩
set_option maxRecDepth 100000 in
theorem my_X12_why : MYok false yX12_why cX12_why 8 (some .int) 4 := ⟨(gt_6 218 rfl rfl), ⟨(gt_6 216 rfl rfl), Or.inr (gt_6 217 rfl rfl)⟩, (gt_1 13 rfl rfl), ⟨by decide, by decide⟩, by decide +kernel⟩
set_option maxRecDepth 100000 in
theorem my_X12_lost : MYok false yX12_lost cX12_lost 9 (some .long) 5 := ⟨(gt_6 222 rfl rfl), ⟨(gt_6 220 rfl rfl), Or.inr (gt_6 221 rfl rfl)⟩, (gt_1 13 rfl rfl), ⟨by decide, by decide⟩, by decide +kernel⟩
set_option maxRecDepth 100000 in
theorem my_X12_widest : MYok false yX12_widest cX12_widest 7 (some .int) 4 := ⟨(gt_6 231 rfl rfl), ⟨(gt_6 229 rfl rfl), Or.inr (gt_6 230 rfl rfl)⟩, (gt_1 13 rfl rfl), ⟨by decide, by decide⟩, by decide +kernel⟩
set_option maxRecDepth 100000 in
theorem my_X12_quarrel0 : MYok false yX12_quarrel0 cX12_quarrel0 3 (some .boolean) 2 := ⟨(gt_6 239 rfl rfl), ⟨(gt_6 238 rfl rfl), Or.inr (gs_8 4 rfl)⟩, (gt_1 13 rfl rfl), ⟨by decide, by decide⟩, by decide +kernel⟩
set_option maxRecDepth 100000 in
theorem my_X12_quarrel : MYok false yX12_quarrel cX12_quarrel 3 (some .int) 2 := ⟨(gt_6 235 rfl rfl), ⟨(gt_6 233 rfl rfl), Or.inr (gt_6 234 rfl rfl)⟩, (gt_1 13 rfl rfl), ⟨by decide, by decide⟩, by decide +kernel⟩
set_option maxRecDepth 100000 in
theorem my_X12_quarrels : MYok false yX12_quarrels cX12_quarrels 8 (some .int) 3 := ⟨(gt_7 3 rfl rfl), ⟨(gt_7 1 rfl rfl), Or.inr (gt_7 2 rfl rfl)⟩, (gt_1 13 rfl rfl), ⟨by decide, by decide⟩, by decide +kernel⟩
set_option maxRecDepth 100000 in
theorem my_X12_opening : MYok false yX12_opening cX12_opening 7 (some .int) 2 := ⟨(gt_7 11 rfl rfl), ⟨(gt_7 10 rfl rfl), Or.inr (gs_8 5 rfl)⟩, (gt_1 13 rfl rfl), ⟨by decide, by decide⟩, by decide +kernel⟩
set_option maxRecDepth 100000 in
theorem my_X12_ones : MYok true yX12_ones cX12_ones 3 (some .int) 1 := ⟨(gt_7 26 rfl rfl), (gt_7 25 rfl rfl), (gt_1 13 rfl rfl), ⟨by decide, by decide⟩, by decide +kernel⟩
set_option maxRecDepth 100000 in
theorem my_X12_worth : MYok false yX12_worth cX12_worth 4 (some .int) 1 := ⟨(gt_7 23 rfl rfl), ⟨(gt_7 22 rfl rfl), Or.inr (gs_8 8 rfl)⟩, (gt_1 13 rfl rfl), ⟨by decide, by decide⟩, by decide +kernel⟩
set_option maxRecDepth 100000 in
theorem my_X12_chooses : MYok false yX12_chooses cX12_chooses 8 none 4 := ⟨(gt_7 19 rfl rfl), ⟨(gt_7 18 rfl rfl), Or.inr (gs_8 7 rfl)⟩, (gt_1 13 rfl rfl), ⟨by decide, by decide⟩, by decide +kernel⟩
set_option maxRecDepth 100000 in
theorem my_X12_best : MYok false yX12_best cX12_best 2 (some .int) 1 := ⟨(gt_7 15 rfl rfl), ⟨(gt_7 14 rfl rfl), Or.inr (gs_8 6 rfl)⟩, (gt_1 13 rfl rfl), ⟨by decide, by decide⟩, by decide +kernel⟩
set_option maxRecDepth 100000 in
theorem my_X12_right : MYok false yX12_right cX12_right 4 (some .int) 2 := ⟨(gt_7 7 rfl rfl), ⟨(gt_7 5 rfl rfl), Or.inr (gt_7 6 rfl rfl)⟩, (gt_1 13 rfl rfl), ⟨by decide, by decide⟩, by decide +kernel⟩
set_option maxRecDepth 100000 in
theorem my_X12_isRight : MYok false yX12_isRight cX12_isRight 2 (some .int) 1 := ⟨(gt_7 30 rfl rfl), ⟨(gt_7 28 rfl rfl), Or.inr (gt_7 29 rfl rfl)⟩, (gt_1 13 rfl rfl), ⟨by decide, by decide⟩, by decide +kernel⟩
set_option maxRecDepth 100000 in
theorem my_X12_puts : MYok false yX12_puts cX12_puts 2 none 1 := ⟨(gt_7 50 rfl rfl), ⟨(gt_7 49 rfl rfl), Or.inr (gs_8 12 rfl)⟩, (gt_1 13 rfl rfl), ⟨by decide, by decide⟩, by decide +kernel⟩
set_option maxRecDepth 100000 in
theorem my_X12_putsLog : MYok false yX12_putsLog cX12_putsLog 2 none 1 := ⟨(gt_7 62 rfl rfl), ⟨(gt_7 61 rfl rfl), Or.inr (gs_8 15 rfl)⟩, (gt_1 13 rfl rfl), ⟨by decide, by decide⟩, by decide +kernel⟩
set_option maxRecDepth 100000 in
theorem my_X12_joins : MYok false yX12_joins cX12_joins 4 (some .boolean) 2 := ⟨(gt_7 46 rfl rfl), ⟨(gt_7 45 rfl rfl), Or.inr (gs_8 11 rfl)⟩, (gt_1 13 rfl rfl), ⟨by decide, by decide⟩, by decide +kernel⟩
set_option maxRecDepth 100000 in
theorem my_X12_bound : MYok false yX12_bound cX12_bound 7 (some .int) 2 := ⟨(gt_7 42 rfl rfl), ⟨(gt_7 41 rfl rfl), Or.inr (gs_8 10 rfl)⟩, (gt_1 13 rfl rfl), ⟨by decide, by decide⟩, by decide +kernel⟩
set_option maxRecDepth 100000 in
theorem my_X12_sizeOf : MYok false yX12_sizeOf cX12_sizeOf 4 (some .int) 1 := ⟨(gt_7 54 rfl rfl), ⟨(gt_7 53 rfl rfl), Or.inr (gs_8 13 rfl)⟩, (gt_1 13 rfl rfl), ⟨by decide, by decide⟩, by decide +kernel⟩
set_option maxRecDepth 100000 in
theorem my_X12_proves : MYok false yX12_proves cX12_proves 5 none 2 := ⟨(gt_7 38 rfl rfl), ⟨(gt_7 37 rfl rfl), Or.inr (gs_8 9 rfl)⟩, (gt_1 13 rfl rfl), ⟨by decide, by decide⟩, by decide +kernel⟩
set_option maxRecDepth 100000 in
theorem my_X12_putsGroup : MYok false yX12_putsGroup cX12_putsGroup 4 none 1 := ⟨(gt_7 58 rfl rfl), ⟨(gt_7 57 rfl rfl), Or.inr (gs_8 14 rfl)⟩, (gt_1 13 rfl rfl), ⟨by decide, by decide⟩, by decide +kernel⟩
set_option maxRecDepth 100000 in
theorem my_X12_prove : MYok false yX12_prove cX12_prove 5 (some .int) 2 := ⟨(gt_7 34 rfl rfl), ⟨(gt_7 32 rfl rfl), Or.inr (gt_7 33 rfl rfl)⟩, (gt_1 13 rfl rfl), ⟨by decide, by decide⟩, by decide +kernel⟩
set_option maxRecDepth 100000 in
theorem my_X12_proof : MYok false yX12_proof cX12_proof 2 (some .int) 1 := ⟨(gt_7 66 rfl rfl), ⟨(gt_7 64 rfl rfl), Or.inr (gt_7 65 rfl rfl)⟩, (gt_1 13 rfl rfl), ⟨by decide, by decide⟩, by decide +kernel⟩
set_option maxRecDepth 100000 in
theorem my_X12_feed : MYok false yX12_feed cX12_feed 7 (some .int) 5 := ⟨(gt_7 70 rfl rfl), ⟨(gt_7 68 rfl rfl), Or.inr (gt_7 69 rfl rfl)⟩, (gt_1 13 rfl rfl), ⟨by decide, by decide⟩, by decide +kernel⟩
set_option maxRecDepth 100000 in
theorem my_X12_end : MYok false yX12_end cX12_end 2 (some .int) 1 := ⟨(gt_7 74 rfl rfl), ⟨(gt_7 72 rfl rfl), Or.inr (gt_7 73 rfl rfl)⟩, (gt_1 13 rfl rfl), ⟨by decide, by decide⟩, by decide +kernel⟩
set_option maxRecDepth 100000 in
theorem my_X12_isDigit : MYok false yX12_isDigit cX12_isDigit 2 (some .boolean) 1 := ⟨(gt_7 86 rfl rfl), ⟨(gt_7 85 rfl rfl), Or.inr (gs_9 1 rfl)⟩, (gt_1 13 rfl rfl), ⟨by decide, by decide⟩, by decide +kernel⟩
set_option maxRecDepth 100000 in
theorem my_X12_next : MYok false yX12_next cX12_next 1 none 0 := ⟨(gt_7 82 rfl rfl), ⟨(gt_7 81 rfl rfl), Or.inr (gs_9 0 rfl)⟩, (gt_1 13 rfl rfl), ⟨by decide, by decide⟩, by decide +kernel⟩
set_option maxRecDepth 100000 in
theorem my_X12_good : MYok false yX12_good cX12_good 1 (some .boolean) 0 := ⟨(gt_7 94 rfl rfl), ⟨(gt_7 93 rfl rfl), Or.inr (gs_9 3 rfl)⟩, (gt_1 13 rfl rfl), ⟨by decide, by decide⟩, by decide +kernel⟩
set_option maxRecDepth 100000 in
theorem my_X12_faults : MYok false yX12_faults cX12_faults 1 none 0 := ⟨(gt_7 98 rfl rfl), ⟨(gt_7 97 rfl rfl), Or.inr (gs_9 4 rfl)⟩, (gt_1 13 rfl rfl), ⟨by decide, by decide⟩, by decide +kernel⟩
set_option maxRecDepth 100000 in
theorem my_X12_takes : MYok false yX12_takes cX12_takes 3 (some .boolean) 1 := ⟨(gt_7 110 rfl rfl), ⟨(gt_7 109 rfl rfl), Or.inr (gs_9 7 rfl)⟩, (gt_1 13 rfl rfl), ⟨by decide, by decide⟩, by decide +kernel⟩
set_option maxRecDepth 100000 in
theorem my_X12_need : MYok false yX12_need cX12_need 2 none 1 := ⟨(gt_7 114 rfl rfl), ⟨(gt_7 113 rfl rfl), Or.inr (gs_9 8 rfl)⟩, (gt_1 13 rfl rfl), ⟨by decide, by decide⟩, by decide +kernel⟩
set_option maxRecDepth 100000 in
theorem my_X12_aLog : MYok false yX12_aLog cX12_aLog 4 (some .int) 1 := ⟨(gt_7 106 rfl rfl), ⟨(gt_7 105 rfl rfl), Or.inr (gs_9 6 rfl)⟩, (gt_1 13 rfl rfl), ⟨by decide, by decide⟩, by decide +kernel⟩
set_option maxRecDepth 100000 in
theorem my_X12_proofOf : MYok false yX12_proofOf cX12_proofOf 6 none 3 := ⟨(gt_7 90 rfl rfl), ⟨(gt_7 89 rfl rfl), Or.inr (gs_9 2 rfl)⟩, (gt_1 13 rfl rfl), ⟨by decide, by decide⟩, by decide +kernel⟩
set_option maxRecDepth 100000 in
theorem my_X12_leafOf : MYok false yX12_leafOf cX12_leafOf 10 none 2 := ⟨(gt_7 102 rfl rfl), ⟨(gt_7 101 rfl rfl), Or.inr (gs_9 5 rfl)⟩, (gt_1 13 rfl rfl), ⟨by decide, by decide⟩, by decide +kernel⟩
set_option maxRecDepth 100000 in
theorem my_X12_check : MYok false yX12_check cX12_check 5 (some .int) 3 := ⟨(gt_7 78 rfl rfl), ⟨(gt_7 76 rfl rfl), Or.inr (gt_7 77 rfl rfl)⟩, (gt_1 13 rfl rfl), ⟨by decide, by decide⟩, by decide +kernel⟩
set_option maxRecDepth 100000 in
theorem my_X12_fault : MYok false yX12_fault cX12_fault 1 (some .int) 0 := ⟨(gt_7 118 rfl rfl), ⟨(gt_7 116 rfl rfl), Or.inr (gt_7 117 rfl rfl)⟩, (gt_1 13 rfl rfl), ⟨by decide, by decide⟩, by decide +kernel⟩
set_option maxRecDepth 100000 in
theorem my_X12_lays : MYok false yX12_lays cX12_lays 8 none 2 := ⟨(gt_7 126 rfl rfl), ⟨(gt_7 125 rfl rfl), Or.inr (gs_9 9 rfl)⟩, (gt_1 13 rfl rfl), ⟨by decide, by decide⟩, by decide +kernel⟩
set_option maxRecDepth 100000 in
theorem my_X12_slides : MYok false yX12_slides cX12_slides 8 none 3 := ⟨(gt_7 131 rfl rfl), ⟨(gt_7 130 rfl rfl), Or.inr (gs_9 10 rfl)⟩, (gt_1 13 rfl rfl), ⟨by decide, by decide⟩, by decide +kernel⟩
set_option maxRecDepth 100000 in
theorem my_X12_behind0 : MYok false yX12_behind0 cX12_behind0 3 (some .int) 2 := ⟨(gt_7 135 rfl rfl), ⟨(gt_7 134 rfl rfl), Or.inr (gs_9 11 rfl)⟩, (gt_1 13 rfl rfl), ⟨by decide, by decide⟩, by decide +kernel⟩
set_option maxRecDepth 100000 in
theorem my_X12_adds2 : MYok true yX12_adds2 cX12_adds2 2 (some .int) 2 := ⟨(gt_7 142 rfl rfl), (gt_7 141 rfl rfl), (gt_1 13 rfl rfl), ⟨by decide, by decide⟩, by decide +kernel⟩
set_option maxRecDepth 100000 in
theorem my_X12_leastOf : MYok false yX12_leastOf cX12_leastOf 4 (some .int) 1 := ⟨(gt_7 139 rfl rfl), ⟨(gt_7 138 rfl rfl), Or.inr (gs_9 12 rfl)⟩, (gt_1 13 rfl rfl), ⟨by decide, by decide⟩, by decide +kernel⟩
set_option maxRecDepth 100000 in
theorem my_X12_miss : MYok false yX12_miss cX12_miss 10 (some .int) 2 := ⟨(gt_7 122 rfl rfl), ⟨(gt_7 120 rfl rfl), Or.inr (gt_7 121 rfl rfl)⟩, (gt_1 13 rfl rfl), ⟨by decide, by decide⟩, by decide +kernel⟩
set_option maxRecDepth 100000 in
theorem my_X12_curve : MYok false yX12_curve cX12_curve 2 (some .int) 1 := ⟨(gt_7 146 rfl rfl), ⟨(gt_7 144 rfl rfl), Or.inr (gt_7 145 rfl rfl)⟩, (gt_1 13 rfl rfl), ⟨by decide, by decide⟩, by decide +kernel⟩
set_option maxRecDepth 100000 in
theorem my_X12_runs : MYok false yX12_runs cX12_runs 8 none 3 := ⟨(gt_7 154 rfl rfl), ⟨(gt_7 153 rfl rfl), Or.inr (gs_9 13 rfl)⟩, (gt_1 13 rfl rfl), ⟨by decide, by decide⟩, by decide +kernel⟩
set_option maxRecDepth 100000 in
theorem my_X12_offers : MYok false yX12_offers cX12_offers 5 none 4 := ⟨(gt_7 158 rfl rfl), ⟨(gt_7 157 rfl rfl), Or.inr (gs_9 14 rfl)⟩, (gt_1 13 rfl rfl), ⟨by decide, by decide⟩, by decide +kernel⟩
set_option maxRecDepth 100000 in
theorem my_X12_hidden : MYok false yX12_hidden cX12_hidden 6 (some .int) 3 := ⟨(gt_7 150 rfl rfl), ⟨(gt_7 148 rfl rfl), Or.inr (gt_7 149 rfl rfl)⟩, (gt_1 13 rfl rfl), ⟨by decide, by decide⟩, by decide +kernel⟩
set_option maxRecDepth 100000 in
theorem my_X12_hid : MYok false yX12_hid cX12_hid 2 (some .int) 1 := ⟨(gt_7 162 rfl rfl), ⟨(gt_7 160 rfl rfl), Or.inr (gt_7 161 rfl rfl)⟩, (gt_1 13 rfl rfl), ⟨by decide, by decide⟩, by decide +kernel⟩
set_option maxRecDepth 100000 in
theorem my_X12_call : MYok false yX12_call cX12_call 3 (some .int) 1 := ⟨(gt_7 166 rfl rfl), ⟨(gt_7 164 rfl rfl), Or.inr (gt_7 165 rfl rfl)⟩, (gt_1 13 rfl rfl), ⟨by decide, by decide⟩, by decide +kernel⟩
set_option maxRecDepth 100000 in
theorem my_X12_clear : MYok false yX12_clear cX12_clear 2 (some .int) 0 := ⟨(gt_7 170 rfl rfl), ⟨(gt_7 168 rfl rfl), Or.inr (gt_7 169 rfl rfl)⟩, (gt_1 13 rfl rfl), ⟨by decide, by decide⟩, by decide +kernel⟩
set_option maxRecDepth 100000 in
theorem my_X12_isCall : MYok false yX12_isCall cX12_isCall 4 (some .boolean) 2 := ⟨(gt_7 182 rfl rfl), ⟨(gt_7 181 rfl rfl), Or.inr (gs_10 0 rfl)⟩, (gt_1 13 rfl rfl), ⟨by decide, by decide⟩, by decide +kernel⟩
set_option maxRecDepth 100000 in
theorem my_X12_costOf : MYok false yX12_costOf cX12_costOf 11 (some .long) 5 := ⟨(gt_7 178 rfl rfl), ⟨(gt_7 177 rfl rfl), Or.inr (gs_9 15 rfl)⟩, (gt_1 13 rfl rfl), ⟨by decide, by decide⟩, by decide +kernel⟩
set_option maxRecDepth 100000 in
theorem my_X12_plan : MYok false yX12_plan cX12_plan 12 (some .int) 4 := ⟨(gt_7 174 rfl rfl), ⟨(gt_7 172 rfl rfl), Or.inr (gt_7 173 rfl rfl)⟩, (gt_1 13 rfl rfl), ⟨by decide, by decide⟩, by decide +kernel⟩
set_option maxRecDepth 100000 in
theorem my_X12_judge : MYok false yX12_judge cX12_judge 6 (some .long) 5 := ⟨(gt_7 186 rfl rfl), ⟨(gt_7 184 rfl rfl), Or.inr (gt_7 185 rfl rfl)⟩, (gt_1 13 rfl rfl), ⟨by decide, by decide⟩, by decide +kernel⟩
set_option maxRecDepth 100000 in
theorem my_X12_sumOf : MYok false yX12_sumOf cX12_sumOf 3 (some .int) 0 := ⟨(gt_7 194 rfl rfl), ⟨(gt_7 193 rfl rfl), Or.inr (gs_10 1 rfl)⟩, (gt_1 13 rfl rfl), ⟨by decide, by decide⟩, by decide +kernel⟩
set_option maxRecDepth 100000 in
theorem my_X12_weightOf : MYok false yX12_weightOf cX12_weightOf 3 (some .int) 0 := ⟨(gt_7 198 rfl rfl), ⟨(gt_7 197 rfl rfl), Or.inr (gs_10 2 rfl)⟩, (gt_1 13 rfl rfl), ⟨by decide, by decide⟩, by decide +kernel⟩
set_option maxRecDepth 100000 in
theorem my_X12_seal : MYok false yX12_seal cX12_seal 1 (some .int) 0 := ⟨(gt_7 190 rfl rfl), ⟨(gt_7 188 rfl rfl), Or.inr (gt_7 189 rfl rfl)⟩, (gt_1 13 rfl rfl), ⟨by decide, by decide⟩, by decide +kernel⟩
set_option maxRecDepth 100000 in
theorem my_X12_alter : MYok false yX12_alter cX12_alter 3 (some .int) 2 := ⟨(gt_7 202 rfl rfl), ⟨(gt_7 200 rfl rfl), Or.inr (gt_7 201 rfl rfl)⟩, (gt_1 13 rfl rfl), ⟨by decide, by decide⟩, by decide +kernel⟩
set_option maxRecDepth 100000 in
theorem my_X12_found : MYok false yX12_found cX12_found 4 (some .int) 0 := ⟨(gt_7 206 rfl rfl), ⟨(gt_7 204 rfl rfl), Or.inr (gt_7 205 rfl rfl)⟩, (gt_1 13 rfl rfl), ⟨by decide, by decide⟩, by decide +kernel⟩
set_option maxRecDepth 100000 in
theorem my_X12_count : MYok false yX12_count cX12_count 2 (some .int) 1 := ⟨(gt_7 210 rfl rfl), ⟨(gt_7 208 rfl rfl), Or.inr (gt_7 209 rfl rfl)⟩, (gt_1 13 rfl rfl), ⟨by decide, by decide⟩, by decide +kernel⟩
set_option maxRecDepth 100000 in
theorem my_X12_status : MYok false yX12_status cX12_status 1 (some .int) 0 := ⟨(gt_7 214 rfl rfl), ⟨(gt_7 212 rfl rfl), Or.inr (gt_7 213 rfl rfl)⟩, (gt_1 13 rfl rfl), ⟨by decide, by decide⟩, by decide +kernel⟩
set_option maxRecDepth 100000 in
theorem my_J6_bitCount_0f7a4 : MYok true yJ6_bitCount_0f7a4 cJ6_bitCount_0f7a4 1 (some .int) 1 := ⟨(gt_4 13 rfl rfl), (gt_4 12 rfl rfl), (gt_1 15 rfl rfl), ⟨by decide, by decide⟩, by decide +kernel⟩
set_option maxRecDepth 100000 in
theorem my_J9_floorDiv_7cf53 : MYok true yJ9_floorDiv_7cf53 cJ9_floorDiv_7cf53 3 (some .int) 2 := ⟨(gt_3 130 rfl rfl), (gt_3 129 rfl rfl), (gt_1 14 rfl rfl), ⟨by decide, by decide⟩, by decide +kernel⟩
set_option maxRecDepth 100000 in
theorem my_J9_max_7cf53 : MYok true yJ9_max_7cf53 cJ9_max_7cf53 2 (some .int) 2 := ⟨(gt_3 133 rfl rfl), (gt_3 132 rfl rfl), (gt_1 14 rfl rfl), ⟨by decide, by decide⟩, by decide +kernel⟩
set_option maxRecDepth 100000 in
theorem my_J9_max_f86c9 : MYok true yJ9_max_f86c9 cJ9_max_f86c9 4 (some .long) 2 := ⟨(gt_4 61 rfl rfl), (gt_4 60 rfl rfl), (gt_1 14 rfl rfl), ⟨by decide, by decide⟩, by decide +kernel⟩
set_option maxRecDepth 100000 in
theorem my_J9_min_7cf53 : MYok true yJ9_min_7cf53 cJ9_min_7cf53 2 (some .int) 2 := ⟨(gt_3 136 rfl rfl), (gt_3 135 rfl rfl), (gt_1 14 rfl rfl), ⟨by decide, by decide⟩, by decide +kernel⟩
set_option maxRecDepth 100000 in
theorem ml_RX11_1 : Cond.methodLink RX11 1 Lib.objectInit ∈ GW := (gt_1 22 rfl rfl)
set_option maxRecDepth 100000 in
theorem ml_RX11_9 : MLok RX11 9 yX0_init := Or.inr ⟨"ShipSkins", (nt_1 27 rfl rfl)⟩
set_option maxRecDepth 100000 in
theorem ml_RX11_26 : MLok RX11 26 yX6_init := Or.inr ⟨"ShipSkins", (nt_1 197 rfl rfl)⟩
set_option maxRecDepth 100000 in
theorem ml_RX11_35 : MLok RX11 35 yX2_init := Or.inr ⟨"ShipSkins", (nt_2 27 rfl rfl)⟩
set_option maxRecDepth 100000 in
theorem ml_RX11_44 : MLok RX11 44 yX1_init := Or.inr ⟨"ShipSkins", (nt_2 58 rfl rfl)⟩
set_option maxRecDepth 100000 in
theorem ml_RX11_53 : MLok RX11 53 yX8_init := Or.inr ⟨"ShipSkins", (nt_2 75 rfl rfl)⟩
set_option maxRecDepth 100000 in
theorem ml_RX11_60 : MLok RX11 60 yX10_init := Or.inr ⟨"ShipSkins", (nt_2 102 rfl rfl)⟩
set_option maxRecDepth 100000 in
theorem ml_RX11_67 : MLok RX11 67 yX5_init := Or.inr ⟨"ShipSkins", (nt_2 138 rfl rfl)⟩
set_option maxRecDepth 100000 in
theorem ml_RX11_74 : MLok RX11 74 yX7_init := Or.inr ⟨"ShipSkins", (nt_2 221 rfl rfl)⟩
set_option maxRecDepth 100000 in
theorem ml_RX11_79 : MLok RX11 79 yX11_within := Or.inl (gt_3 41 rfl rfl)
set_option maxRecDepth 100000 in
theorem ml_RX11_83 : MLok RX11 83 yX11_refuse := Or.inl (gt_3 44 rfl rfl)
set_option maxRecDepth 100000 in
theorem ml_RX11_87 : MLok RX11 87 yX0_setLaw := Or.inr ⟨"ShipSkins", (nt_3 48 rfl rfl)⟩
set_option maxRecDepth 100000 in
theorem ml_RX11_91 : MLok RX11 91 yX11_accept := Or.inl (gt_3 52 rfl rfl)
set_option maxRecDepth 100000 in
theorem ml_RX11_102 : MLok RX11 102 yX11_isDay := Or.inl (gt_3 64 rfl rfl)
set_option maxRecDepth 100000 in
theorem ml_RX11_106 : MLok RX11 106 yX11_isShip := Or.inl (gt_3 67 rfl rfl)
set_option maxRecDepth 100000 in
theorem ml_RX11_118 : MLok RX11 118 yX3_append := Or.inr ⟨"ShipSkins", (nt_3 71 rfl rfl)⟩
set_option maxRecDepth 100000 in
theorem ml_RX11_122 : MLok RX11 122 yX0_isCleaned := Or.inr ⟨"ShipSkins", (nt_3 79 rfl rfl)⟩
set_option maxRecDepth 100000 in
theorem ml_RX11_129 : MLok RX11 129 yX0_addCleaning := Or.inr ⟨"ShipSkins", (nt_3 83 rfl rfl)⟩
set_option maxRecDepth 100000 in
theorem ml_RX11_139 : MLok RX11 139 yX6_load := Or.inr ⟨"ShipSkins", (nt_3 96 rfl rfl)⟩
set_option maxRecDepth 100000 in
theorem ml_RX11_146 : MLok RX11 146 yX11_addLog := Or.inl (gt_3 137 rfl rfl)
set_option maxRecDepth 100000 in
theorem ml_RX11_150 : MLok RX11 150 yX11_isLog := Or.inl (gt_3 149 rfl rfl)
set_option maxRecDepth 100000 in
theorem ml_RX11_189 : MLok RX11 189 yX6_fuel := Or.inr ⟨"ShipSkins", (nt_3 165 rfl rfl)⟩
set_option maxRecDepth 100000 in
theorem ml_RX11_193 : MLok RX11 193 yX6_shareOf := Or.inr ⟨"ShipSkins", (nt_3 169 rfl rfl)⟩
set_option maxRecDepth 100000 in
theorem ml_RX11_197 : MLok RX11 197 yX11_bindAsKnown := Or.inl (gt_3 178 rfl rfl)
set_option maxRecDepth 100000 in
theorem ml_RX11_200 : MLok RX11 200 yX6_endOf := Or.inr ⟨"ShipSkins", (nt_3 198 rfl rfl)⟩
set_option maxRecDepth 100000 in
theorem ml_RX11_203 : MLok RX11 203 yX6_counting := Or.inr ⟨"ShipSkins", (nt_3 182 rfl rfl)⟩
set_option maxRecDepth 100000 in
theorem ml_RX11_206 : MLok RX11 206 yX6_makerOf := Or.inr ⟨"ShipSkins", (nt_3 206 rfl rfl)⟩
set_option maxRecDepth 100000 in
theorem ml_RX11_209 : MLok RX11 209 yX11_isStretch := Or.inl (gt_3 216 rfl rfl)
set_option maxRecDepth 100000 in
theorem ml_RX11_214 : MLok RX11 214 yX6_skinFuel := Or.inr ⟨"ShipSkins", (nt_3 220 rfl rfl)⟩
set_option maxRecDepth 100000 in
theorem ml_RX11_217 : MLok RX11 217 yX6_widthOf := Or.inr ⟨"ShipSkins", (nt_3 228 rfl rfl)⟩
set_option maxRecDepth 100000 in
theorem ml_RX11_220 : MLok RX11 220 yX2_load := Or.inr ⟨"ShipSkins", (nt_3 236 rfl rfl)⟩
set_option maxRecDepth 100000 in
theorem ml_RX11_223 : MLok RX11 223 yX2_pairs := Or.inr ⟨"ShipSkins", (nt_4 7 rfl rfl)⟩
set_option maxRecDepth 100000 in
theorem ml_RX11_227 : MLok RX11 227 yX2_pairAt := Or.inr ⟨"ShipSkins", (nt_4 17 rfl rfl)⟩
set_option maxRecDepth 100000 in
theorem ml_RX11_230 : MLok RX11 230 yX11_isReadable := Or.inl (gt_4 25 rfl rfl)
set_option maxRecDepth 100000 in
theorem ml_RX11_233 : MLok RX11 233 yX6_bind := Or.inr ⟨"ShipSkins", (nt_3 186 rfl rfl)⟩
set_option maxRecDepth 100000 in
theorem ml_RX11_236 : MLok RX11 236 yX1_choose := Or.inr ⟨"ShipSkins", (nt_4 33 rfl rfl)⟩
set_option maxRecDepth 100000 in
theorem ml_RX11_249 : MLok RX11 249 yX1_bestWorth := Or.inr ⟨"ShipSkins", (nt_4 70 rfl rfl)⟩
set_option maxRecDepth 100000 in
theorem ml_RX11_252 : MLok RX11 252 yX8_writeAll := Or.inr ⟨"ShipSkins", (nt_4 86 rfl rfl)⟩
set_option maxRecDepth 100000 in
theorem ml_RX11_261 : MLok RX11 261 yX10_hasRoom := Or.inr ⟨"ShipSkins", (nt_4 130 rfl rfl)⟩
set_option maxRecDepth 100000 in
theorem ml_RX11_264 : MLok RX11 264 yX10_append := Or.inr ⟨"ShipSkins", (nt_4 134 rfl rfl)⟩
set_option maxRecDepth 100000 in
theorem ml_RX11_267 : MLok RX11 267 yX10_holdsProof := Or.inr ⟨"ShipSkins", (nt_4 146 rfl rfl)⟩
set_option maxRecDepth 100000 in
theorem ml_RX11_273 : MLok RX11 273 yX5_leastMiss := Or.inr ⟨"ShipSkins", (nt_4 196 rfl rfl)⟩
set_option maxRecDepth 100000 in
theorem ml_RX11_282 : MLok RX11 282 yX5_leastWithHidden := Or.inr ⟨"ShipSkins", (nt_5 33 rfl rfl)⟩
set_option maxRecDepth 100000 in
theorem ml_RX11_295 : MLok RX11 295 yX7_append := Or.inr ⟨"ShipSkins", (nt_5 65 rfl rfl)⟩
set_option maxRecDepth 100000 in
theorem ml_RX11_296 : MLok RX11 296 yX7_drop := Or.inr ⟨"ShipSkins", (nt_5 73 rfl rfl)⟩
set_option maxRecDepth 100000 in
theorem ml_RX11_299 : MLok RX11 299 yX7_cheapest := Or.inr ⟨"ShipSkins", (nt_5 81 rfl rfl)⟩
set_option maxRecDepth 100000 in
theorem ml_RX11_302 : MLok RX11 302 yX7_worstCost := Or.inr ⟨"ShipSkins", (nt_5 97 rfl rfl)⟩
set_option maxRecDepth 100000 in
theorem ml_RX11_310 : MLok RX11 310 yX4_sum := Or.inr ⟨"ShipSkins", (nt_5 102 rfl rfl)⟩
set_option maxRecDepth 100000 in
theorem ml_RX11_318 : MLok RX11 318 yX4_placedSum := Or.inr ⟨"ShipSkins", (nt_5 106 rfl rfl)⟩
set_option maxRecDepth 100000 in
theorem ml_RX11_327 : MLok RX11 327 yX0_copyFrom := Or.inr ⟨"ShipSkins", (nt_5 122 rfl rfl)⟩
set_option maxRecDepth 100000 in
theorem ml_RX0_3 : Cond.methodLink RX0 3 Lib.objectInit ∈ GW := (gt_1 30 rfl rfl)
set_option maxRecDepth 100000 in
theorem ml_RX0_42 : MLok RX0 42 yX3_init := Or.inr ⟨"ShipSkins", (nt_1 33 rfl rfl)⟩
set_option maxRecDepth 100000 in
theorem ml_RX0_49 : MLok RX0 49 yX4_init := Or.inr ⟨"ShipSkins", (nt_1 70 rfl rfl)⟩
set_option maxRecDepth 100000 in
theorem ml_RX0_67 : Cond.methodLink RX0 67 arraycopyName ∈ GW := (gt_5 126 rfl rfl)
set_option maxRecDepth 100000 in
theorem ml_RX0_73 : MLok RX0 73 yX3_copyFrom := Or.inr ⟨"ShipSkins", (nt_5 129 rfl rfl)⟩
set_option maxRecDepth 100000 in
theorem ml_RX0_77 : MLok RX0 77 yX4_copyFrom := Or.inr ⟨"ShipSkins", (nt_5 134 rfl rfl)⟩
set_option maxRecDepth 100000 in
theorem ml_RX1_3 : Cond.methodLink RX1 3 Lib.objectInit ∈ GW := (gt_2 61 rfl rfl)
set_option maxRecDepth 100000 in
theorem ml_RX1_30 : MLok RX1 30 yX1_search := Or.inl (gt_4 38 rfl rfl)
set_option maxRecDepth 100000 in
theorem ml_RX1_34 : MLok RX1 34 yX2_allWorth := Or.inr ⟨"ShipSkins", (nt_4 74 rfl rfl)⟩
set_option maxRecDepth 100000 in
theorem ml_RX1_44 : MLok RX1 44 yX1_bound := Or.inl (gt_4 42 rfl rfl)
set_option maxRecDepth 100000 in
theorem ml_RX1_48 : MLok RX1 48 yX2_busiest := Or.inr ⟨"ShipSkins", (nt_4 62 rfl rfl)⟩
set_option maxRecDepth 100000 in
theorem ml_RX1_51 : MLok RX1 51 yX1_allKeys := Or.inl (gt_4 66 rfl rfl)
set_option maxRecDepth 100000 in
theorem ml_RX1_57 : MLok RX1 57 yX1_keyOf := Or.inl (gt_4 54 rfl rfl)
set_option maxRecDepth 100000 in
theorem ml_RX1_60 : MLok RX1 60 yX2_groupFrom := Or.inr ⟨"ShipSkins", (nt_4 46 rfl rfl)⟩
set_option maxRecDepth 100000 in
theorem ml_RX1_64 : MLok RX1 64 yX1_greatestKey := Or.inl (gt_4 50 rfl rfl)
set_option maxRecDepth 100000 in
theorem ml_RX1_67 : MLok RX1 67 yJ9_max_f86c9 := Or.inl (gt_4 59 rfl rfl)
set_option maxRecDepth 100000 in
theorem ml_RX2_3 : Cond.methodLink RX2 3 Lib.objectInit ∈ GW := (gt_2 30 rfl rfl)
set_option maxRecDepth 100000 in
theorem ml_RX2_37 : MLok RX2 37 yX6_load := Or.inr ⟨"ShipSkins", (nt_4 0 rfl rfl)⟩
set_option maxRecDepth 100000 in
theorem ml_RX2_41 : MLok RX2 41 yX6_counting := Or.inr ⟨"ShipSkins", (nt_4 1 rfl rfl)⟩
set_option maxRecDepth 100000 in
theorem ml_RX2_52 : MLok RX2 52 yX2_findFoes := Or.inl (gt_4 2 rfl rfl)
set_option maxRecDepth 100000 in
theorem ml_RX2_55 : MLok RX2 55 yX6_bind := Or.inr ⟨"ShipSkins", (nt_4 6 rfl rfl)⟩
set_option maxRecDepth 100000 in
theorem ml_RX2_74 : MLok RX2 74 yJ6_bitCount_0f7a4 := Or.inl (gt_4 11 rfl rfl)
set_option maxRecDepth 100000 in
theorem ml_RX2_79 : MLok RX2 79 yJ9_max_7cf53 := Or.inl (gt_4 104 rfl rfl)
set_option maxRecDepth 100000 in
theorem ml_RX3_3 : Cond.methodLink RX3 3 Lib.objectInit ∈ GW := (gt_1 36 rfl rfl)
set_option maxRecDepth 100000 in
theorem ml_RX3_34 : Cond.methodLink RX3 34 arraycopyName ∈ GW := (gt_5 133 rfl rfl)
set_option maxRecDepth 100000 in
theorem ml_RX4_3 : Cond.methodLink RX4 3 Lib.objectInit ∈ GW := (gt_1 73 rfl rfl)
set_option maxRecDepth 100000 in
theorem ml_RX4_41 : Cond.methodLink RX4 41 arraycopyName ∈ GW := (gt_5 138 rfl rfl)
set_option maxRecDepth 100000 in
theorem ml_RX5_3 : Cond.methodLink RX5 3 Lib.objectInit ∈ GW := (gt_2 141 rfl rfl)
set_option maxRecDepth 100000 in
theorem ml_RX5_11 : MLok RX5 11 yX9_init := Or.inr ⟨"ShipSkins", (nt_2 144 rfl rfl)⟩
set_option maxRecDepth 100000 in
theorem ml_RX5_41 : MLok RX5 41 yX5_sortByDay := Or.inl (gt_4 200 rfl rfl)
set_option maxRecDepth 100000 in
theorem ml_RX5_45 : MLok RX5 45 yX5_sweepBack := Or.inl (gt_4 204 rfl rfl)
set_option maxRecDepth 100000 in
theorem ml_RX5_50 : MLok RX5 50 yX5_followBottoms := Or.inl (gt_5 19 rfl rfl)
set_option maxRecDepth 100000 in
theorem ml_RX5_81 : MLok RX5 81 yX9_begin := Or.inr ⟨"ShipSkins", (nt_4 209 rfl rfl)⟩
set_option maxRecDepth 100000 in
theorem ml_RX5_85 : MLok RX5 85 yX5_stepBack := Or.inl (gt_4 213 rfl rfl)
set_option maxRecDepth 100000 in
theorem ml_RX5_89 : MLok RX5 89 yX5_addLogs := Or.inl (gt_5 3 rfl rfl)
set_option maxRecDepth 100000 in
theorem ml_RX5_92 : MLok RX5 92 yX9_bottom := Or.inr ⟨"ShipSkins", (nt_5 15 rfl rfl)⟩
set_option maxRecDepth 100000 in
theorem ml_RX5_100 : MLok RX5 100 yX9_bottomCost := Or.inr ⟨"ShipSkins", (nt_4 217 rfl rfl)⟩
set_option maxRecDepth 100000 in
theorem ml_RX5_113 : MLok RX5 113 yX9_spread := Or.inr ⟨"ShipSkins", (nt_4 221 rfl rfl)⟩
set_option maxRecDepth 100000 in
theorem ml_RX5_117 : MLok RX5 117 yX9_cutTo := Or.inr ⟨"ShipSkins", (nt_4 233 rfl rfl)⟩
set_option maxRecDepth 100000 in
theorem ml_RX5_129 : MLok RX5 129 yX9_addMiss := Or.inr ⟨"ShipSkins", (nt_5 7 rfl rfl)⟩
set_option maxRecDepth 100000 in
theorem ml_RX5_132 : MLok RX5 132 yJ9_max_7cf53 := Or.inl (gt_5 23 rfl rfl)
set_option maxRecDepth 100000 in
theorem ml_RX5_138 : MLok RX5 138 yJ9_min_7cf53 := Or.inl (gt_5 24 rfl rfl)
set_option maxRecDepth 100000 in
theorem ml_RX5_153 : MLok RX5 153 yX5_sweepAhead := Or.inl (gt_5 37 rfl rfl)
set_option maxRecDepth 100000 in
theorem ml_RX5_156 : MLok RX5 156 yX5_tryOne := Or.inl (gt_5 45 rfl rfl)
set_option maxRecDepth 100000 in
theorem ml_RX5_159 : MLok RX5 159 yX5_tryTwo := Or.inl (gt_5 53 rfl rfl)
set_option maxRecDepth 100000 in
theorem ml_RX5_165 : MLok RX5 165 yX5_stepAhead := Or.inl (gt_5 41 rfl rfl)
set_option maxRecDepth 100000 in
theorem ml_RX5_168 : MLok RX5 168 yX5_offer := Or.inl (gt_5 49 rfl rfl)
set_option maxRecDepth 100000 in
theorem ml_RX6_3 : Cond.methodLink RX6 3 Lib.objectInit ∈ GW := (gt_1 200 rfl rfl)
set_option maxRecDepth 100000 in
theorem ml_RX6_51 : MLok RX6 51 yX6_findLegs := Or.inl (gt_3 100 rfl rfl)
set_option maxRecDepth 100000 in
theorem ml_RX6_54 : MLok RX6 54 yX6_findLaws := Or.inl (gt_3 104 rfl rfl)
set_option maxRecDepth 100000 in
theorem ml_RX6_57 : MLok RX6 57 yX6_findCleanings := Or.inl (gt_3 108 rfl rfl)
set_option maxRecDepth 100000 in
theorem ml_RX6_60 : MLok RX6 60 yX6_readLogs := Or.inl (gt_3 112 rfl rfl)
set_option maxRecDepth 100000 in
theorem ml_RX6_121 : MLok RX6 121 yX6_keepReading := Or.inl (gt_3 116 rfl rfl)
set_option maxRecDepth 100000 in
theorem ml_RX6_126 : MLok RX6 126 yX6_readFuel := Or.inl (gt_3 120 rfl rfl)
set_option maxRecDepth 100000 in
theorem ml_RX6_130 : MLok RX6 130 yX6_portion := Or.inl (gt_3 124 rfl rfl)
set_option maxRecDepth 100000 in
theorem ml_RX6_134 : MLok RX6 134 yJ9_floorDiv_7cf53 := Or.inl (gt_3 128 rfl rfl)
set_option maxRecDepth 100000 in
theorem ml_RX6_140 : MLok RX6 140 yJ9_max_7cf53 := Or.inl (gt_3 131 rfl rfl)
set_option maxRecDepth 100000 in
theorem ml_RX6_143 : MLok RX6 143 yJ9_min_7cf53 := Or.inl (gt_3 134 rfl rfl)
set_option maxRecDepth 100000 in
theorem ml_RX6_161 : MLok RX6 161 yX6_fuel := Or.inl (gt_3 173 rfl rfl)
set_option maxRecDepth 100000 in
theorem ml_RX6_164 : MLok RX6 164 yX6_narrow := Or.inl (gt_3 190 rfl rfl)
set_option maxRecDepth 100000 in
theorem ml_RX6_167 : MLok RX6 167 yX6_isBound := Or.inl (gt_3 194 rfl rfl)
set_option maxRecDepth 100000 in
theorem ml_RX6_171 : MLok RX6 171 yX6_endOf := Or.inl (gt_3 210 rfl rfl)
set_option maxRecDepth 100000 in
theorem ml_RX6_174 : MLok RX6 174 yX6_bind := Or.inl (gt_3 211 rfl rfl)
set_option maxRecDepth 100000 in
theorem ml_RX7_3 : Cond.methodLink RX7 3 Lib.objectInit ∈ GW := (gt_2 224 rfl rfl)
set_option maxRecDepth 100000 in
theorem ml_RX7_23 : MLok RX7 23 yX7_worstCost := Or.inl (gt_5 85 rfl rfl)
set_option maxRecDepth 100000 in
theorem ml_RX7_27 : MLok RX7 27 yJ6_bitCount_0f7a4 := Or.inl (gt_5 92 rfl rfl)
set_option maxRecDepth 100000 in
theorem ml_RX7_52 : MLok RX7 52 yJ9_max_7cf53 := Or.inl (gt_5 89 rfl rfl)
set_option maxRecDepth 100000 in
theorem ml_RX7_58 : MLok RX7 58 yJ9_min_7cf53 := Or.inl (gt_5 90 rfl rfl)
set_option maxRecDepth 100000 in
theorem ml_RX7_66 : MLok RX7 66 yX6_skinFuel := Or.inr ⟨"ShipSkins", (nt_5 91 rfl rfl)⟩
set_option maxRecDepth 100000 in
theorem ml_RX8_3 : Cond.methodLink RX8 3 Lib.objectInit ∈ GW := (gt_2 78 rfl rfl)
set_option maxRecDepth 100000 in
theorem ml_RX8_35 : MLok RX8 35 yX8_write := Or.inl (gt_4 90 rfl rfl)
set_option maxRecDepth 100000 in
theorem ml_RX8_42 : MLok RX8 42 yX2_busiest := Or.inr ⟨"ShipSkins", (nt_4 94 rfl rfl)⟩
set_option maxRecDepth 100000 in
theorem ml_RX8_46 : MLok RX8 46 yX8_bound := Or.inl (gt_4 95 rfl rfl)
set_option maxRecDepth 100000 in
theorem ml_RX8_49 : MLok RX8 49 yX8_writeGroups := Or.inl (gt_4 105 rfl rfl)
set_option maxRecDepth 100000 in
theorem ml_RX8_53 : MLok RX8 53 yX8_put := Or.inl (gt_4 109 rfl rfl)
set_option maxRecDepth 100000 in
theorem ml_RX8_56 : MLok RX8 56 yX8_putNumber := Or.inl (gt_4 118 rfl rfl)
set_option maxRecDepth 100000 in
theorem ml_RX8_65 : MLok RX8 65 yX2_groupFrom := Or.inr ⟨"ShipSkins", (nt_4 99 rfl rfl)⟩
set_option maxRecDepth 100000 in
theorem ml_RX8_69 : MLok RX8 69 yX2_greatestWorth := Or.inr ⟨"ShipSkins", (nt_4 100 rfl rfl)⟩
set_option maxRecDepth 100000 in
theorem ml_RX8_72 : MLok RX8 72 yJ6_bitCount_0f7a4 := Or.inl (gt_4 113 rfl rfl)
set_option maxRecDepth 100000 in
theorem ml_RX8_77 : MLok RX8 77 yX8_writeGroup := Or.inl (gt_4 114 rfl rfl)
set_option maxRecDepth 100000 in
theorem ml_RX9_3 : Cond.methodLink RX9 3 Lib.objectInit ∈ GW := (gt_2 147 rfl rfl)
set_option maxRecDepth 100000 in
theorem ml_RX9_34 : MLok RX9 34 yJ9_max_7cf53 := Or.inl (gt_4 237 rfl rfl)
set_option maxRecDepth 100000 in
theorem ml_RX9_40 : MLok RX9 40 yX9_insertByPlace := Or.inl (gt_5 11 rfl rfl)
set_option maxRecDepth 100000 in
theorem ml_RX9_44 : MLok RX9 44 yX9_insertAt := Or.inl (gt_4 229 rfl rfl)
set_option maxRecDepth 100000 in
theorem ml_RX9_48 : MLok RX9 48 yX9_splitAtBottom := Or.inl (gt_4 225 rfl rfl)
set_option maxRecDepth 100000 in
theorem ml_RX9_52 : MLok RX9 52 yJ9_min_7cf53 := Or.inl (gt_4 238 rfl rfl)
set_option maxRecDepth 100000 in
theorem ml_RX9_55 : MLok RX9 55 yX9_dropFirst := Or.inl (gt_4 239 rfl rfl)
set_option maxRecDepth 100000 in
theorem ml_RX10_3 : Cond.methodLink RX10 3 Lib.objectInit ∈ GW := (gt_2 105 rfl rfl)
set_option maxRecDepth 100000 in
theorem ml_RX10_32 : MLok RX10 32 yX10_step := Or.inl (gt_4 150 rfl rfl)
set_option maxRecDepth 100000 in
theorem ml_RX10_40 : MLok RX10 40 yX10_readProof := Or.inl (gt_4 162 rfl rfl)
set_option maxRecDepth 100000 in
theorem ml_RX10_44 : MLok RX10 44 yX10_expect := Or.inl (gt_4 182 rfl rfl)
set_option maxRecDepth 100000 in
theorem ml_RX10_54 : MLok RX10 54 yX10_isDigit := Or.inl (gt_4 154 rfl rfl)
set_option maxRecDepth 100000 in
theorem ml_RX10_57 : MLok RX10 57 yX10_readNumber := Or.inl (gt_4 157 rfl rfl)
set_option maxRecDepth 100000 in
theorem ml_RX10_63 : MLok RX10 63 yJ9_min_7cf53 := Or.inl (gt_4 161 rfl rfl)
set_option maxRecDepth 100000 in
theorem ml_RX10_69 : MLok RX10 69 yX10_fail := Or.inl (gt_4 166 rfl rfl)
set_option maxRecDepth 100000 in
theorem ml_RX10_73 : MLok RX10 73 yX10_readGroups := Or.inl (gt_4 170 rfl rfl)
set_option maxRecDepth 100000 in
theorem ml_RX10_77 : MLok RX10 77 yX10_isLogOf := Or.inl (gt_4 178 rfl rfl)
set_option maxRecDepth 100000 in
theorem ml_RX10_86 : MLok RX10 86 yX10_readGroup := Or.inl (gt_4 174 rfl rfl)
set_option maxRecDepth 100000 in
theorem ml_RX10_90 : MLok RX10 90 yX2_greatestWorth := Or.inr ⟨"ShipSkins", (nt_4 186 rfl rfl)⟩
set_option maxRecDepth 100000 in
theorem ml_RX10_93 : MLok RX10 93 yX2_allWorth := Or.inr ⟨"ShipSkins", (nt_4 187 rfl rfl)⟩
set_option maxRecDepth 100000 in
theorem ml_RL_9 : MLok RL 9 yX11_init := Or.inl (gt_1 19 rfl rfl)
set_option maxRecDepth 100000 in
theorem ml_RL_12 : MLok RL 12 yX12_init := Or.inl (gt_5 153 rfl rfl)
set_option maxRecDepth 100000 in
theorem ml_RL_13 : MLok RL 13 yX11_table := Or.inl (gt_3 37 rfl rfl)
set_option maxRecDepth 100000 in
theorem ml_RL_17 : MLok RL 17 yX12_table := Or.inl (gt_6 79 rfl rfl)
set_option maxRecDepth 100000 in
theorem ml_RL_18 : MLok RL 18 yX11_ship := Or.inl (gt_3 56 rfl rfl)
set_option maxRecDepth 100000 in
theorem ml_RL_22 : MLok RL 22 yX12_ship := Or.inl (gt_6 83 rfl rfl)
set_option maxRecDepth 100000 in
theorem ml_RL_23 : MLok RL 23 yX11_leg := Or.inl (gt_3 60 rfl rfl)
set_option maxRecDepth 100000 in
theorem ml_RL_27 : MLok RL 27 yX12_leg := Or.inl (gt_6 91 rfl rfl)
set_option maxRecDepth 100000 in
theorem ml_RL_28 : MLok RL 28 yX11_cleaned := Or.inl (gt_3 75 rfl rfl)
set_option maxRecDepth 100000 in
theorem ml_RL_32 : MLok RL 32 yX12_cleaned := Or.inl (gt_6 102 rfl rfl)
set_option maxRecDepth 100000 in
theorem ml_RL_33 : MLok RL 33 yX11_terms := Or.inl (gt_3 87 rfl rfl)
set_option maxRecDepth 100000 in
theorem ml_RL_37 : MLok RL 37 yX12_terms := Or.inl (gt_6 114 rfl rfl)
set_option maxRecDepth 100000 in
theorem ml_RL_38 : MLok RL 38 yX11_log := Or.inl (gt_3 92 rfl rfl)
set_option maxRecDepth 100000 in
theorem ml_RL_41 : MLok RL 41 yX12_log := Or.inl (gt_6 155 rfl rfl)
set_option maxRecDepth 100000 in
theorem ml_RL_42 : MLok RL 42 yX11_look := Or.inl (gt_3 141 rfl rfl)
set_option maxRecDepth 100000 in
theorem ml_RL_45 : MLok RL 45 yX12_look := Or.inl (gt_6 163 rfl rfl)
set_option maxRecDepth 100000 in
theorem ml_RL_46 : MLok RL 46 yX11_of := Or.inl (gt_3 145 rfl rfl)
set_option maxRecDepth 100000 in
theorem ml_RL_49 : MLok RL 49 yX12_of := Or.inl (gt_6 167 rfl rfl)
set_option maxRecDepth 100000 in
theorem ml_RL_50 : MLok RL 50 yX11_leave := Or.inl (gt_3 153 rfl rfl)
set_option maxRecDepth 100000 in
theorem ml_RL_53 : MLok RL 53 yX12_leave := Or.inl (gt_6 183 rfl rfl)
set_option maxRecDepth 100000 in
theorem ml_RL_54 : MLok RL 54 yX11_law := Or.inl (gt_3 157 rfl rfl)
set_option maxRecDepth 100000 in
theorem ml_RL_57 : MLok RL 57 yX12_law := Or.inl (gt_6 119 rfl rfl)
set_option maxRecDepth 100000 in
theorem ml_RL_58 : MLok RL 58 yX11_share := Or.inl (gt_3 161 rfl rfl)
set_option maxRecDepth 100000 in
theorem ml_RL_61 : MLok RL 61 yX12_share := Or.inl (gt_6 143 rfl rfl)
set_option maxRecDepth 100000 in
theorem ml_RL_62 : MLok RL 62 yX11_span := Or.inl (gt_3 174 rfl rfl)
set_option maxRecDepth 100000 in
theorem ml_RL_65 : MLok RL 65 yX12_span := Or.inl (gt_6 187 rfl rfl)
set_option maxRecDepth 100000 in
theorem ml_RL_66 : MLok RL 66 yX11_why := Or.inl (gt_3 202 rfl rfl)
set_option maxRecDepth 100000 in
theorem ml_RL_69 : MLok RL 69 yX12_why := Or.inl (gt_6 215 rfl rfl)
set_option maxRecDepth 100000 in
theorem ml_RL_70 : MLok RL 70 yX11_lost := Or.inl (gt_3 212 rfl rfl)
set_option maxRecDepth 100000 in
theorem ml_RL_74 : MLok RL 74 yX12_lost := Or.inl (gt_6 219 rfl rfl)
set_option maxRecDepth 100000 in
theorem ml_RL_75 : MLok RL 75 yX11_widest := Or.inl (gt_3 224 rfl rfl)
set_option maxRecDepth 100000 in
theorem ml_RL_78 : MLok RL 78 yX12_widest := Or.inl (gt_6 228 rfl rfl)
set_option maxRecDepth 100000 in
theorem ml_RL_79 : MLok RL 79 yX11_quarrels := Or.inl (gt_3 232 rfl rfl)
set_option maxRecDepth 100000 in
theorem ml_RL_82 : MLok RL 82 yX12_quarrels := Or.inl (gt_7 0 rfl rfl)
set_option maxRecDepth 100000 in
theorem ml_RL_83 : MLok RL 83 yX11_quarrel := Or.inl (gt_4 21 rfl rfl)
set_option maxRecDepth 100000 in
theorem ml_RL_86 : MLok RL 86 yX12_quarrel := Or.inl (gt_6 232 rfl rfl)
set_option maxRecDepth 100000 in
theorem ml_RL_87 : MLok RL 87 yX11_right := Or.inl (gt_4 29 rfl rfl)
set_option maxRecDepth 100000 in
theorem ml_RL_90 : MLok RL 90 yX12_right := Or.inl (gt_7 4 rfl rfl)
set_option maxRecDepth 100000 in
theorem ml_RL_91 : MLok RL 91 yX11_isRight := Or.inl (gt_4 78 rfl rfl)
set_option maxRecDepth 100000 in
theorem ml_RL_94 : MLok RL 94 yX12_isRight := Or.inl (gt_7 27 rfl rfl)
set_option maxRecDepth 100000 in
theorem ml_RL_95 : MLok RL 95 yX11_prove := Or.inl (gt_4 82 rfl rfl)
set_option maxRecDepth 100000 in
theorem ml_RL_98 : MLok RL 98 yX12_prove := Or.inl (gt_7 31 rfl rfl)
set_option maxRecDepth 100000 in
theorem ml_RL_99 : MLok RL 99 yX11_proof := Or.inl (gt_4 122 rfl rfl)
set_option maxRecDepth 100000 in
theorem ml_RL_102 : MLok RL 102 yX12_proof := Or.inl (gt_7 63 rfl rfl)
set_option maxRecDepth 100000 in
theorem ml_RL_103 : MLok RL 103 yX11_feed := Or.inl (gt_4 126 rfl rfl)
set_option maxRecDepth 100000 in
theorem ml_RL_107 : MLok RL 107 yX12_feed := Or.inl (gt_7 67 rfl rfl)
set_option maxRecDepth 100000 in
theorem ml_RL_108 : MLok RL 108 yX11_end := Or.inl (gt_4 138 rfl rfl)
set_option maxRecDepth 100000 in
theorem ml_RL_111 : MLok RL 111 yX12_end := Or.inl (gt_7 71 rfl rfl)
set_option maxRecDepth 100000 in
theorem ml_RL_112 : MLok RL 112 yX11_check := Or.inl (gt_4 142 rfl rfl)
set_option maxRecDepth 100000 in
theorem ml_RL_115 : MLok RL 115 yX12_check := Or.inl (gt_7 75 rfl rfl)
set_option maxRecDepth 100000 in
theorem ml_RL_116 : MLok RL 116 yX11_fault := Or.inl (gt_4 188 rfl rfl)
set_option maxRecDepth 100000 in
theorem ml_RL_120 : MLok RL 120 yX12_fault := Or.inl (gt_7 115 rfl rfl)
set_option maxRecDepth 100000 in
theorem ml_RL_121 : MLok RL 121 yX11_miss := Or.inl (gt_4 192 rfl rfl)
set_option maxRecDepth 100000 in
theorem ml_RL_124 : MLok RL 124 yX12_miss := Or.inl (gt_7 119 rfl rfl)
set_option maxRecDepth 100000 in
theorem ml_RL_125 : MLok RL 125 yX11_curve := Or.inl (gt_5 25 rfl rfl)
set_option maxRecDepth 100000 in
theorem ml_RL_128 : MLok RL 128 yX12_curve := Or.inl (gt_7 143 rfl rfl)
set_option maxRecDepth 100000 in
theorem ml_RL_129 : MLok RL 129 yX11_hidden := Or.inl (gt_5 29 rfl rfl)
set_option maxRecDepth 100000 in
theorem ml_RL_132 : MLok RL 132 yX12_hidden := Or.inl (gt_7 147 rfl rfl)
set_option maxRecDepth 100000 in
theorem ml_RL_133 : MLok RL 133 yX11_hid := Or.inl (gt_5 57 rfl rfl)
set_option maxRecDepth 100000 in
theorem ml_RL_136 : MLok RL 136 yX12_hid := Or.inl (gt_7 159 rfl rfl)
set_option maxRecDepth 100000 in
theorem ml_RL_137 : MLok RL 137 yX11_call := Or.inl (gt_5 61 rfl rfl)
set_option maxRecDepth 100000 in
theorem ml_RL_140 : MLok RL 140 yX12_call := Or.inl (gt_7 163 rfl rfl)
set_option maxRecDepth 100000 in
theorem ml_RL_141 : MLok RL 141 yX11_clear := Or.inl (gt_5 69 rfl rfl)
set_option maxRecDepth 100000 in
theorem ml_RL_144 : MLok RL 144 yX12_clear := Or.inl (gt_7 167 rfl rfl)
set_option maxRecDepth 100000 in
theorem ml_RL_145 : MLok RL 145 yX11_plan := Or.inl (gt_5 77 rfl rfl)
set_option maxRecDepth 100000 in
theorem ml_RL_148 : MLok RL 148 yX12_plan := Or.inl (gt_7 171 rfl rfl)
set_option maxRecDepth 100000 in
theorem ml_RL_149 : MLok RL 149 yX11_judge := Or.inl (gt_5 93 rfl rfl)
set_option maxRecDepth 100000 in
theorem ml_RL_152 : MLok RL 152 yX12_judge := Or.inl (gt_7 183 rfl rfl)
set_option maxRecDepth 100000 in
theorem ml_RL_153 : MLok RL 153 yX11_seal := Or.inl (gt_5 98 rfl rfl)
set_option maxRecDepth 100000 in
theorem ml_RL_156 : MLok RL 156 yX12_seal := Or.inl (gt_7 187 rfl rfl)
set_option maxRecDepth 100000 in
theorem ml_RL_157 : MLok RL 157 yX11_alter := Or.inl (gt_5 110 rfl rfl)
set_option maxRecDepth 100000 in
theorem ml_RL_160 : MLok RL 160 yX12_alter := Or.inl (gt_7 199 rfl rfl)
set_option maxRecDepth 100000 in
theorem ml_RL_161 : MLok RL 161 yX11_found := Or.inl (gt_5 114 rfl rfl)
set_option maxRecDepth 100000 in
theorem ml_RL_164 : MLok RL 164 yX12_found := Or.inl (gt_7 203 rfl rfl)
set_option maxRecDepth 100000 in
theorem ml_RL_165 : MLok RL 165 yX11_image := Or.inl (gt_5 118 rfl rfl)
set_option maxRecDepth 100000 in
theorem ml_RL_168 : MLok RL 168 yX12_image := Or.inl (gt_6 64 rfl rfl)
set_option maxRecDepth 100000 in
theorem ml_RL_169 : MLok RL 169 yX11_back := Or.inl (gt_5 139 rfl rfl)
set_option maxRecDepth 100000 in
theorem ml_RL_172 : MLok RL 172 yX12_back := Or.inl (gt_6 75 rfl rfl)
set_option maxRecDepth 100000 in
theorem ml_RL_173 : MLok RL 173 yX11_count := Or.inl (gt_5 143 rfl rfl)
set_option maxRecDepth 100000 in
theorem ml_RL_176 : MLok RL 176 yX12_count := Or.inl (gt_7 207 rfl rfl)
set_option maxRecDepth 100000 in
theorem ml_RL_177 : MLok RL 177 yX11_status := Or.inl (gt_5 147 rfl rfl)
set_option maxRecDepth 100000 in
theorem ml_RL_180 : MLok RL 180 yX12_status := Or.inl (gt_7 211 rfl rfl)
set_option maxRecDepth 100000 in
theorem ml_RX12_3 : MLok RX12 3 yX12_in := Or.inl (gt_6 68 rfl rfl)
set_option maxRecDepth 100000 in
theorem ml_RX12_11 : Cond.methodLink RX12 11 Lib.objectInit ∈ GW := (gt_5 156 rfl rfl)
set_option maxRecDepth 100000 in
theorem ml_RX12_102 : MLok RX12 102 yX12_many := Or.inl (gt_6 87 rfl rfl)
set_option maxRecDepth 100000 in
theorem ml_RX12_106 : MLok RX12 106 yX12_ends := Or.inl (gt_6 71 rfl rfl)
set_option maxRecDepth 100000 in
theorem ml_RX12_109 : MLok RX12 109 yX12_isDay := Or.inl (gt_6 95 rfl rfl)
set_option maxRecDepth 100000 in
theorem ml_RX12_113 : MLok RX12 113 yX12_isShip := Or.inl (gt_6 98 rfl rfl)
set_option maxRecDepth 100000 in
theorem ml_RX12_116 : MLok RX12 116 yX12_leftOn := Or.inl (gt_6 106 rfl rfl)
set_option maxRecDepth 100000 in
theorem ml_RX12_121 : MLok RX12 121 yX12_legAt := Or.inl (gt_6 139 rfl rfl)
set_option maxRecDepth 100000 in
theorem ml_RX12_124 : MLok RX12 124 yX12_legOn := Or.inl (gt_6 135 rfl rfl)
set_option maxRecDepth 100000 in
theorem ml_RX12_127 : MLok RX12 127 yX12_clean := Or.inl (gt_6 110 rfl rfl)
set_option maxRecDepth 100000 in
theorem ml_RX12_130 : MLok RX12 130 yX12_onDay := Or.inl (gt_6 131 rfl rfl)
set_option maxRecDepth 100000 in
theorem ml_RX12_134 : MLok RX12 134 yX12_speedOn := Or.inl (gt_6 127 rfl rfl)
set_option maxRecDepth 100000 in
theorem ml_RX12_137 : MLok RX12 137 yX12_byTable := Or.inl (gt_6 123 rfl rfl)
set_option maxRecDepth 100000 in
theorem ml_RX12_140 : MLok RX12 140 yX12_portion := Or.inl (gt_6 151 rfl rfl)
set_option maxRecDepth 100000 in
theorem ml_RX12_144 : MLok RX12 144 yX12_fuel := Or.inl (gt_6 147 rfl rfl)
set_option maxRecDepth 100000 in
theorem ml_RX12_147 : MLok RX12 147 yX12_adds := Or.inl (gt_6 159 rfl rfl)
set_option maxRecDepth 100000 in
theorem ml_RX12_151 : MLok RX12 151 yX12_logAt := Or.inl (gt_6 175 rfl rfl)
set_option maxRecDepth 100000 in
theorem ml_RX12_154 : MLok RX12 154 yX12_isLog := Or.inl (gt_6 171 rfl rfl)
set_option maxRecDepth 100000 in
theorem ml_RX12_157 : MLok RX12 157 yX12_readAs := Or.inl (gt_6 179 rfl rfl)
set_option maxRecDepth 100000 in
theorem ml_RX12_166 : MLok RX12 166 yX12_alone := Or.inl (gt_6 203 rfl rfl)
set_option maxRecDepth 100000 in
theorem ml_RX12_170 : MLok RX12 170 yX12_meets := Or.inl (gt_6 207 rfl rfl)
set_option maxRecDepth 100000 in
theorem ml_RX12_174 : MLok RX12 174 yX12_isAsked := Or.inl (gt_6 191 rfl rfl)
set_option maxRecDepth 100000 in
theorem ml_RX12_177 : MLok RX12 177 yX12_counting := Or.inl (gt_6 195 rfl rfl)
set_option maxRecDepth 100000 in
theorem ml_RX12_180 : MLok RX12 180 yX12_spans := Or.inl (gt_6 199 rfl rfl)
set_option maxRecDepth 100000 in
theorem ml_RX12_184 : MLok RX12 184 yX12_endOf := Or.inl (gt_6 211 rfl rfl)
set_option maxRecDepth 100000 in
theorem ml_RX12_189 : MLok RX12 189 yX12_skin := Or.inl (gt_6 224 rfl rfl)
set_option maxRecDepth 100000 in
theorem ml_RX12_192 : MLok RX12 192 yX12_quarrel0 := Or.inl (gt_6 236 rfl rfl)
set_option maxRecDepth 100000 in
theorem ml_RX12_195 : MLok RX12 195 yX12_worth := Or.inl (gt_7 20 rfl rfl)
set_option maxRecDepth 100000 in
theorem ml_RX12_201 : MLok RX12 201 yX12_ones := Or.inl (gt_7 24 rfl rfl)
set_option maxRecDepth 100000 in
theorem ml_RX12_210 : MLok RX12 210 yX12_chooses := Or.inl (gt_7 16 rfl rfl)
set_option maxRecDepth 100000 in
theorem ml_RX12_214 : MLok RX12 214 yX12_opening := Or.inl (gt_7 8 rfl rfl)
set_option maxRecDepth 100000 in
theorem ml_RX12_217 : MLok RX12 217 yX12_best := Or.inl (gt_7 12 rfl rfl)
set_option maxRecDepth 100000 in
theorem ml_RX12_223 : MLok RX12 223 yX12_puts := Or.inl (gt_7 47 rfl rfl)
set_option maxRecDepth 100000 in
theorem ml_RX12_230 : MLok RX12 230 yX12_joins := Or.inl (gt_7 43 rfl rfl)
set_option maxRecDepth 100000 in
theorem ml_RX12_233 : MLok RX12 233 yX12_bound := Or.inl (gt_7 39 rfl rfl)
set_option maxRecDepth 100000 in
theorem ml_RX12_239 : MLok RX12 239 yX12_sizeOf := Or.inl (gt_7 51 rfl rfl)
set_option maxRecDepth 100000 in
theorem ml_RX12_242 : MLok RX12 242 yX12_putsGroup := Or.inl (gt_7 55 rfl rfl)
set_option maxRecDepth 100000 in
theorem ml_RX12_245 : MLok RX12 245 yX12_putsLog := Or.inl (gt_7 59 rfl rfl)
set_option maxRecDepth 100000 in
theorem ml_RX12_248 : MLok RX12 248 yX12_proves := Or.inl (gt_7 35 rfl rfl)
set_option maxRecDepth 100000 in
theorem ml_RX12_263 : MLok RX12 263 yX12_isDigit := Or.inl (gt_7 83 rfl rfl)
set_option maxRecDepth 100000 in
theorem ml_RX12_269 : MLok RX12 269 yX12_good := Or.inl (gt_7 91 rfl rfl)
set_option maxRecDepth 100000 in
theorem ml_RX12_273 : MLok RX12 273 yX12_next := Or.inl (gt_7 79 rfl rfl)
set_option maxRecDepth 100000 in
theorem ml_RX12_276 : MLok RX12 276 yX12_takes := Or.inl (gt_7 107 rfl rfl)
set_option maxRecDepth 100000 in
theorem ml_RX12_279 : MLok RX12 279 yX12_faults := Or.inl (gt_7 95 rfl rfl)
set_option maxRecDepth 100000 in
theorem ml_RX12_282 : MLok RX12 282 yX12_leafOf := Or.inl (gt_7 99 rfl rfl)
set_option maxRecDepth 100000 in
theorem ml_RX12_285 : MLok RX12 285 yX12_aLog := Or.inl (gt_7 103 rfl rfl)
set_option maxRecDepth 100000 in
theorem ml_RX12_288 : MLok RX12 288 yX12_proofOf := Or.inl (gt_7 87 rfl rfl)
set_option maxRecDepth 100000 in
theorem ml_RX12_291 : MLok RX12 291 yX12_need := Or.inl (gt_7 111 rfl rfl)
set_option maxRecDepth 100000 in
theorem ml_RX12_298 : MLok RX12 298 yX12_behind0 := Or.inl (gt_7 132 rfl rfl)
set_option maxRecDepth 100000 in
theorem ml_RX12_301 : MLok RX12 301 yX12_lays := Or.inl (gt_7 123 rfl rfl)
set_option maxRecDepth 100000 in
theorem ml_RX12_304 : MLok RX12 304 yX12_slides := Or.inl (gt_7 128 rfl rfl)
set_option maxRecDepth 100000 in
theorem ml_RX12_307 : MLok RX12 307 yX12_leastOf := Or.inl (gt_7 136 rfl rfl)
set_option maxRecDepth 100000 in
theorem ml_RX12_310 : MLok RX12 310 yX12_adds2 := Or.inl (gt_7 140 rfl rfl)
set_option maxRecDepth 100000 in
theorem ml_RX12_329 : MLok RX12 329 yX12_runs := Or.inl (gt_7 151 rfl rfl)
set_option maxRecDepth 100000 in
theorem ml_RX12_333 : MLok RX12 333 yX12_offers := Or.inl (gt_7 155 rfl rfl)
set_option maxRecDepth 100000 in
theorem ml_RX12_339 : MLok RX12 339 yX12_isCall := Or.inl (gt_7 179 rfl rfl)
set_option maxRecDepth 100000 in
theorem ml_RX12_342 : MLok RX12 342 yX12_costOf := Or.inl (gt_7 175 rfl rfl)
set_option maxRecDepth 100000 in
theorem ml_RX12_346 : MLok RX12 346 yX12_sumOf := Or.inl (gt_7 191 rfl rfl)
set_option maxRecDepth 100000 in
theorem ml_RX12_350 : MLok RX12 350 yX12_weightOf := Or.inl (gt_7 195 rfl rfl)
set_option maxRecDepth 100000 in
theorem gc_RX11_132 : Cond.constant RX11 132 (Int32.ofInt (100000)) ∈ GW := (gt_3 91 rfl rfl)
set_option maxRecDepth 100000 in
theorem gc_RX11_212 : Cond.constantLong RX11 212 (Int64.ofInt (-1)) ∈ GW := (gt_3 219 rfl rfl)
set_option maxRecDepth 100000 in
theorem gc_RX1_15 : Cond.constantLong RX1 15 (Int64.ofInt (-1)) ∈ GW := (gt_4 37 rfl rfl)
set_option maxRecDepth 100000 in
theorem gc_RX1_42 : Cond.constantLong RX1 42 (Int64.ofInt (16777216)) ∈ GW := (gt_4 58 rfl rfl)
set_option maxRecDepth 100000 in
theorem gc_RX5_49 : Cond.constant RX5 49 (Int32.ofInt (100000000)) ∈ GW := (gt_4 208 rfl rfl)
set_option maxRecDepth 100000 in
theorem gc_RX12_71 : Cond.constant RX12 71 (Int32.ofInt (120120)) ∈ GW := (gt_5 157 rfl rfl)
set_option maxRecDepth 100000 in
theorem gc_RX12_120 : Cond.constant RX12 120 (Int32.ofInt (100000)) ∈ GW := (gt_6 118 rfl rfl)
set_option maxRecDepth 100000 in
theorem gc_RX12_187 : Cond.constantLong RX12 187 (Int64.ofInt (-1)) ∈ GW := (gt_6 223 rfl rfl)
set_option maxRecDepth 100000 in
theorem gc_RX12_297 : Cond.constant RX12 297 (Int32.ofInt (1000000000)) ∈ GW := (gt_7 127 rfl rfl)
set_option maxRecDepth 100000 in
theorem gc_RJ6_265 : Cond.constant RJ6 265 (Int32.ofInt (1431655765)) ∈ GW := (gt_4 14 rfl rfl)
set_option maxRecDepth 100000 in
theorem gc_RJ6_266 : Cond.constant RJ6 266 (Int32.ofInt (858993459)) ∈ GW := (gt_4 15 rfl rfl)
set_option maxRecDepth 100000 in
theorem gc_RJ6_267 : Cond.constant RJ6 267 (Int32.ofInt (252645135)) ∈ GW := (gt_4 16 rfl rfl)
set_option maxRecDepth 100000 in
theorem ga_native : Cond.native arraycopyName ∈ GW := (gt_5 128 rfl rfl)
set_option maxRecDepth 100000 in
theorem ga_static : Cond.static arraycopyName ∈ GW := (gt_5 127 rfl rfl)
set_option maxRecDepth 100000 in
theorem ga_init : Cond.initialized "java/lang/System" ∈ GW := (gt_1 16 rfl rfl)
set_option maxRecDepth 100000 in
theorem go_inst : Cond.instanceMethod Lib.objectInit ∈ GW := (gt_1 23 rfl rfl)
set_option maxRecDepth 100000 in
theorem go_code : Cond.code Lib.objectInit ⟨#[0xb1]⟩ 1 none ∈ GW := (gt_1 24 rfl rfl)
