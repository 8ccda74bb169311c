/-! ===== the start; every script ===== -/
theorem inv_start : Inv mz34 := by
  refine ⟨⟨?_, ?_, ?_, ?_, ?_, ?_, ?_, ?_⟩, ?_, ?_, ?_, ?_, ?_, ?_, ?_, ?_, ?_, ?_⟩
  · exact ⟨⟨by decide +kernel, by decide +kernel, by decide +kernel⟩, ⟨by decide +kernel, by decide +kernel, by decide +kernel⟩, ⟨by decide +kernel, by decide +kernel, by decide +kernel⟩, ⟨by decide +kernel, by decide +kernel, by decide +kernel⟩⟩
  · exact ⟨⟨by decide +kernel, by decide +kernel, by decide +kernel⟩, ⟨by decide +kernel, by decide +kernel, by decide +kernel⟩⟩
  · intro i h0 h1
    have e : mz34 103 721 = 0 := by decide +kernel
    omega
  · refine ⟨fun i h0 h1 => ?_, fun i h0 h1 => ?_⟩
    · obtain ⟨n, en⟩ : ∃ n : Nat, i = (n : Int) := ⟨i.toNat, by omega⟩
      subst en
      have key : ∀ n : Nat, n < 6 → mz34 3 (n : Int) = mz34 103 (3 + (n : Int)) ∧ mz34 4 (n : Int) = mz34 103 (9 + (n : Int)) ∧ -100 ≤ mz34 103 (3 + (n : Int)) ∧ mz34 103 (3 + (n : Int)) ≤ mz34 103 (9 + (n : Int)) ∧ mz34 103 (9 + (n : Int)) ≤ 100 := by decide +kernel
      exact key n (by omega)
    · obtain ⟨n, en⟩ : ∃ n : Nat, i = (n : Int) := ⟨i.toNat, by omega⟩
      subst en
      have key : ∀ n : Nat, n < 4 → mz34 3 (6 + (n : Int)) = mz34 103 (15 + (n : Int)) ∧ mz34 4 (6 + (n : Int)) = mz34 103 (19 + (n : Int)) ∧ -100 ≤ mz34 103 (15 + (n : Int)) ∧ mz34 103 (15 + (n : Int)) ≤ mz34 103 (19 + (n : Int)) ∧ mz34 103 (19 + (n : Int)) ≤ 100 := by decide +kernel
      exact key n (by omega)
  · intro i h0 h1
    have e : mz34 103 722 = 0 := by decide +kernel
    omega
  · have e : mz34 103 723 = 0 := by decide +kernel
    exact ⟨fun i h0 h1 => by omega, fun i j h0 h1 h2 => by omega⟩
  · intro i h0 h1
    have e : mz34 103 724 = 0 := by decide +kernel
    omega
  · refine ⟨⟨⟨by decide +kernel, by decide +kernel, by decide +kernel⟩, ⟨by decide +kernel, by decide +kernel⟩, ⟨by decide +kernel, by decide +kernel⟩, ⟨by decide +kernel, by decide +kernel⟩⟩, fun i h0 h1 => ?_⟩
    obtain ⟨n, en⟩ : ∃ n : Nat, i = (n : Int) := ⟨i.toNat, by omega⟩
    subst en
    have key : ∀ n : Nat, n < 24 → (mz34 22 (n : Int) = 0 ∨ mz34 22 (n : Int) = 1) ∧ (mz34 23 (n : Int) = 0 ∨ mz34 23 (n : Int) = 1) := by decide +kernel
    exact key n (by omega)
  · exact ⟨⟨by decide +kernel, by decide +kernel⟩, ⟨by decide +kernel, by decide +kernel⟩⟩
  · intro h
    have e : mz34 71 0 = 0 := by decide +kernel
    omega
  · intro h
    have e : mz34 71 1 = 0 := by decide +kernel
    omega
  · exact ⟨by decide +kernel, by decide +kernel, by decide +kernel⟩
  · exact Or.inl ⟨by decide +kernel, by decide +kernel⟩
  · have e : mz34 86 2 = 0 := by decide +kernel
    exact ⟨⟨by decide +kernel, by decide +kernel⟩, Or.inl ⟨by decide +kernel, e⟩, fun i h0 h1 => by omega⟩
  · have e : mz34 88 2 = 0 := by decide +kernel
    exact ⟨⟨by decide +kernel, by decide +kernel, by decide +kernel⟩, ⟨by decide +kernel, by decide +kernel, by decide +kernel⟩, fun i h0 h1 => by omega⟩
  · have e : mz34 90 7 = 0 := by decide +kernel
    exact ⟨Or.inl e, by decide +kernel, fun h => by omega⟩
  · have e : mz34 90 12 = 0 := by decide +kernel
    exact ⟨⟨by decide +kernel, by decide +kernel⟩, Or.inl ⟨by decide +kernel, e⟩, fun i h0 h1 => by omega⟩
  · have e : mz34 100 1 = 0 := by decide +kernel
    refine ⟨⟨by decide +kernel, by decide +kernel, by decide +kernel⟩, fun c h0 h1 => by omega, fun c c' h0 h1 h2 => by omega, fun d h0 h1 => Or.inl ⟨?_, fun c g0 g1 => by omega⟩⟩
    obtain ⟨n, en⟩ : ∃ n : Nat, d = (n : Int) := ⟨d.toNat, by omega⟩
    subst en
    have key : ∀ n : Nat, n < 120 → mz34 101 (n : Int) = 0 := by decide +kernel
    exact key n (by omega)
theorem law_inv {L : Nat} {xs : Nat → Int32} : ∀ (f : Nat) (v3 : Int) (M : Mm), v3 ≤ (L : Int) → (L : Int) < v3 + 7 * (f : Int) → Inv M → wlaw L xs f v3 M := by
  intro f
  induction f with
  | zero => intro v3 M h1 h2 _; omega
  | succ f ih =>
    intro v3 M h1 h2 hI
    unfold wlaw
    by_cases c : v3 ≤ (L : Int) - 7
    · rw [if_pos c]
      have hk : ∀ M : Mm, Inv M → wlaw L xs f (v3 + 7) M := fun M hM => ih (v3 + 7) M (by omega) (by omega) hM
      by_cases c0 : landI (Xi xs v3) 63 = 0
      · rw [if_pos c0]; exact op_table (inR_Xi _ _) (inR_Xi _ _) (inR_Xi _ _) (inR_Xi _ _) hI hk
      rw [if_neg c0]
      by_cases c1 : landI (Xi xs v3) 63 = 1
      · rw [if_pos c1]; exact op_ship (inR_Xi _ _) hI hk
      rw [if_neg c1]
      by_cases c2 : landI (Xi xs v3) 63 = 2
      · rw [if_pos c2]; exact op_leg (inR_Xi _ _) (inR_Xi _ _) (inR_Xi _ _) (inR_Xi _ _) (inR_Xi _ _) (inR_Xi _ _) hI hk
      rw [if_neg c2]
      by_cases c3 : landI (Xi xs v3) 63 = 3
      · rw [if_pos c3]; exact op_cleaned (inR_Xi _ _) (inR_Xi _ _) (inR_Xi _ _) hI hk
      rw [if_neg c3]
      by_cases c4 : landI (Xi xs v3) 63 = 4
      · rw [if_pos c4]; exact op_terms (inR_Xi _ _) (inR_Xi _ _) hI hk
      rw [if_neg c4]
      by_cases c5 : landI (Xi xs v3) 63 = 5
      · rw [if_pos c5]; exact op_log (inR_Xi _ _) (inR_Xi _ _) (inR_Xi _ _) (inR_Xi _ _) (inR_Xi _ _) (inR_Xi _ _) hI hk
      rw [if_neg c5]
      by_cases c6 : landI (Xi xs v3) 63 = 6
      · rw [if_pos c6]; exact op_look (inR_Xi _ _) (inR_Xi _ _) (inR_Xi _ _) (inR_Xi _ _) (inR_Xi _ _) (inR_Xi _ _) hI hk
      rw [if_neg c6]
      by_cases c7 : landI (Xi xs v3) 63 = 7
      · rw [if_pos c7]; exact op_of (inR_Xi _ _) (inR_Xi _ _) hI hk
      rw [if_neg c7]
      by_cases c8 : landI (Xi xs v3) 63 = 8
      · rw [if_pos c8]; exact op_leave (inR_Xi _ _) (inR_Xi _ _) hI hk
      rw [if_neg c8]
      by_cases c9 : landI (Xi xs v3) 63 = 9
      · rw [if_pos c9]; exact op_law (inR_Xi _ _) (inR_Xi _ _) (inR_Xi _ _) hI hk
      rw [if_neg c9]
      by_cases c10 : landI (Xi xs v3) 63 = 10
      · rw [if_pos c10]; exact op_share (inR_Xi _ _) (inR_Xi _ _) (inR_Xi _ _) (inR_Xi _ _) hI hk
      rw [if_neg c10]
      by_cases c11 : landI (Xi xs v3) 63 = 11
      · rw [if_pos c11]; exact op_span (inR_Xi _ _) (inR_Xi _ _) (inR_Xi _ _) (inR_Xi _ _) hI hk
      rw [if_neg c11]
      by_cases c12 : landI (Xi xs v3) 63 = 12
      · rw [if_pos c12]; exact op_why (inR_Xi _ _) (inR_Xi _ _) (inR_Xi _ _) (inR_Xi _ _) hI hk
      rw [if_neg c12]
      by_cases c13 : landI (Xi xs v3) 63 = 13
      · rw [if_pos c13]; exact op_lost (inR_Xi _ _) (inR_Xi _ _) (inR_Xi _ _) (inR_Xi _ _) (inR_Xi _ _) hI hk
      rw [if_neg c13]
      by_cases c14 : landI (Xi xs v3) 63 = 14
      · rw [if_pos c14]; exact op_widest (inR_Xi _ _) (inR_Xi _ _) (inR_Xi _ _) (inR_Xi _ _) hI hk
      rw [if_neg c14]
      by_cases c15 : landI (Xi xs v3) 63 = 15
      · rw [if_pos c15]; exact op_quarrels (inR_Xi _ _) (inR_Xi _ _) (inR_Xi _ _) hI hk
      rw [if_neg c15]
      by_cases c16 : landI (Xi xs v3) 63 = 16
      · rw [if_pos c16]; exact op_quarrel (inR_Xi _ _) (inR_Xi _ _) hI hk
      rw [if_neg c16]
      by_cases c17 : landI (Xi xs v3) 63 = 17
      · rw [if_pos c17]; exact op_right (inR_Xi _ _) (inR_Xi _ _) hI hk
      rw [if_neg c17]
      by_cases c18 : landI (Xi xs v3) 63 = 18
      · rw [if_pos c18]; exact op_isRight (inR_Xi _ _) hI hk
      rw [if_neg c18]
      by_cases c19 : landI (Xi xs v3) 63 = 19
      · rw [if_pos c19]; exact op_prove (inR_Xi _ _) (inR_Xi _ _) hI hk
      rw [if_neg c19]
      by_cases c20 : landI (Xi xs v3) 63 = 20
      · rw [if_pos c20]; exact op_proof (inR_Xi _ _) hI hk
      rw [if_neg c20]
      by_cases c21 : landI (Xi xs v3) 63 = 21
      · rw [if_pos c21]; exact op_feed hI hk
      rw [if_neg c21]
      by_cases c22 : landI (Xi xs v3) 63 = 22
      · rw [if_pos c22]; exact op_end (inR_Xi _ _) hI hk
      rw [if_neg c22]
      by_cases c23 : landI (Xi xs v3) 63 = 23
      · rw [if_pos c23]; exact op_check (inR_Xi _ _) (inR_Xi _ _) (inR_Xi _ _) hI hk
      rw [if_neg c23]
      by_cases c24 : landI (Xi xs v3) 63 = 24
      · rw [if_pos c24]; exact op_fault hI hk
      rw [if_neg c24]
      by_cases c25 : landI (Xi xs v3) 63 = 25
      · rw [if_pos c25]; exact op_miss (inR_Xi _ _) (inR_Xi _ _) hI hk
      rw [if_neg c25]
      by_cases c26 : landI (Xi xs v3) 63 = 26
      · rw [if_pos c26]; exact op_curve (inR_Xi _ _) hI hk
      rw [if_neg c26]
      by_cases c27 : landI (Xi xs v3) 63 = 27
      · rw [if_pos c27]; exact op_hidden (inR_Xi _ _) (inR_Xi _ _) (inR_Xi _ _) hI hk
      rw [if_neg c27]
      by_cases c28 : landI (Xi xs v3) 63 = 28
      · rw [if_pos c28]; exact op_hid (inR_Xi _ _) hI hk
      rw [if_neg c28]
      by_cases c29 : landI (Xi xs v3) 63 = 29
      · rw [if_pos c29]; exact op_call (inR_Xi _ _) hI hk
      rw [if_neg c29]
      by_cases c30 : landI (Xi xs v3) 63 = 30
      · rw [if_pos c30]; exact op_clear hI hk
      rw [if_neg c30]
      by_cases c31 : landI (Xi xs v3) 63 = 31
      · rw [if_pos c31]; exact op_plan (inR_Xi _ _) (inR_Xi _ _) (inR_Xi _ _) (inR_Xi _ _) hI hk
      rw [if_neg c31]
      by_cases c32 : landI (Xi xs v3) 63 = 32
      · rw [if_pos c32]; exact op_judge (inR_Xi _ _) (inR_Xi _ _) (inR_Xi _ _) (inR_Xi _ _) (inR_Xi _ _) hI hk
      rw [if_neg c32]
      by_cases c33 : landI (Xi xs v3) 63 = 33
      · rw [if_pos c33]; exact op_seal hI hk
      rw [if_neg c33]
      by_cases c34 : landI (Xi xs v3) 63 = 34
      · rw [if_pos c34]; exact op_alter (inR_Xi _ _) (inR_Xi _ _) hI hk
      rw [if_neg c34]
      by_cases c35 : landI (Xi xs v3) 63 = 35
      · rw [if_pos c35]; exact op_found hI hk
      rw [if_neg c35]
      by_cases c36 : landI (Xi xs v3) 63 = 36
      · rw [if_pos c36]; exact op_image (inR_Xi _ _) hI hk
      rw [if_neg c36]
      by_cases c37 : landI (Xi xs v3) 63 = 37
      · rw [if_pos c37]; exact op_back (inR_Xi _ _) hI hk
      rw [if_neg c37]
      by_cases c38 : landI (Xi xs v3) 63 = 38
      · rw [if_pos c38]; exact op_count (inR_Xi _ _) hI hk
      rw [if_neg c38]
      by_cases c39 : landI (Xi xs v3) 63 = 39
      · rw [if_pos c39]; exact op_status hI hk
      rw [if_neg c39]
      exact hk M hI
    · rw [if_neg c]; trivial
theorem law_ok {L : Nat} {xs : Nat → Int32} (hL : L ≤ 3584) : ∃ f, wlaw L xs f 0 mz34 := ⟨513, law_inv 513 0 mz34 (by omega) (by omega) inv_start⟩
theorem whole_start {p : Program} {e : Env} {s : State} {m : MethodId} {below : List Frame} {meth : Method} {c : Code} (l : Launch) {b L : Nat} {xs : Nat → Int32} (hL : L ≤ 3584) (C0 : lw_At p s m meth c b L xs) : W p l e room_1 s m #[Value.ref b] below meth c s.heap [] 0 0 (lw_Z below #[Value.ref b] s) (entryFrame m ([Value.ref b] : List Value).toArray 4) := start_of l hL (law_ok hL) C0
