/-! ===== the model's tokens ===== -/
def BM (M : Mm) (b : Nat → Int) (n : Nat) : Prop := M 102 26 = (n : Int) ∧ n ≤ 400 ∧ ∀ i : Nat, i < n → M 115 (i : Int) = (if b i < 128 then b i else b i - 256) ∧ 0 ≤ b i ∧ b i ≤ 255
def TM (M : Mm) (b : Nat → Int) (n p : Nat) : Prop := M 102 27 = (p : Int) ∧ M 102 28 = ((en b n p : Nat) : Int)
def FrN (M M' : Mm) : Prop := (∀ c : Nat, c ≠ 102 → M' c = M c) ∧ ∀ i, i ≠ 27 → i ≠ 28 → M' 102 i = M 102 i
def FrD (M M' : Mm) : Prop := (∀ c : Nat, c ≠ 102 → M' c = M c) ∧ ∀ i, i ≠ 27 → i ≠ 28 → i ≠ 30 → M' 102 i = M 102 i
theorem FrN.refl {M : Mm} : FrN M M := ⟨fun _ _ => rfl, fun _ _ _ => rfl⟩
theorem FrN.trans {M M1 M2 : Mm} (h1 : FrN M M1) (h2 : FrN M1 M2) : FrN M M2 := ⟨fun c a => (h2.1 c a).trans (h1.1 c a), fun i a b => (h2.2 i a b).trans (h1.2 i a b)⟩
theorem FrD.trans {M M1 M2 : Mm} (h1 : FrD M M1) (h2 : FrD M1 M2) : FrD M M2 := ⟨fun c a => (h2.1 c a).trans (h1.1 c a), fun i a b d => (h2.2 i a b d).trans (h1.2 i a b d)⟩
theorem FrN.toD {M M' : Mm} (h : FrN M M') : FrD M M' := ⟨h.1, fun i a b _ => h.2 i a b⟩
theorem FrN.good {M M' : Mm} (h : FrN M M') (hg : M 102 30 = -1) : M' 102 30 = -1 := by rw [h.2 30 (by decide) (by decide)]; exact hg
/-- a fault is told -/
def Fl (M : Mm) : Prop := 0 ≤ M 102 30 ∧ M 102 30 ≤ 400
section Mtok
variable {b : Nat → Int} {n : Nat} {p : Nat} {kv : Mm → Prop} {kk : Int → Mm → Prop} {A C : Mm → Prop}
theorem BM.fr {M M' : Mm} (hb : BM M b n) (h : FrD M M') : BM M' b n := by
  unfold BM
  rw [h.2 26 (by decide) (by decide) (by decide), h.1 115 (by decide)]
  exact hb
theorem b_mdig {M : Mm} {q : Nat} (hb : BM M b n) (hq : q ≤ n) (h1 : q < n ∧ 48 ≤ b q ∧ b q ≤ 57 → kk 1 M) (h0 : ¬ (q < n ∧ 48 ≤ b q ∧ b q ≤ 57) → kk 0 M) : Bd (wX12_isDigit (q : Int) M) kk := by
  have h400 := hb.2.1
  apply Bd.of; unfold wX12_isDigit
  rw [hb.1]
  refine ⟨(inRof ⟨by omega, by omega⟩), (inRof ⟨by omega, by omega⟩), ?_⟩
  by_cases c : q < n
  · have hbq := hb.2.2 q c
    rw [if_pos (by omega), hbq.1]
    refine ⟨⟨by omega, by omega⟩, ?_⟩
    by_cases c2 : b q < 128
    · rw [if_pos c2]
      refine ⟨(inRof ⟨by omega, by omega⟩), ?_⟩
      by_cases c3 : b q < 48
      · rw [if_pos c3]; exact h0 (by omega)
      · rw [if_neg c3]
        by_cases c4 : b q ≤ 57
        · rw [if_pos c4]; exact h1 (by omega)
        · rw [if_neg c4]; exact h0 (by omega)
    · rw [if_neg c2]
      refine ⟨(inRof ⟨by omega, by omega⟩), ?_⟩
      rw [if_pos (by omega)]
      exact h0 (by omega)
  · rw [if_neg (by omega)]; exact h0 (by omega)
theorem l_mnum {Q : Mm → Prop} : ∀ (k q : Nat) (M : Mm), q + k = n → BM M b n → M 102 28 = (q : Int) → (∀ M' : Mm, (∀ c : Nat, c ≠ 102 → M' c = M c) → (∀ i, i ≠ 28 → M' 102 i = M 102 i) → M' 102 28 = ((dgR b k q : Nat) : Int) → Q M') → wX12_next_65 Q (k + 1) M := by
  intro k
  induction k with
  | zero =>
    intro q M hq hb h28 hk
    unfold wX12_next_65
    rw [h28]
    exact b_mdig hb (by omega) (fun z => absurd z.1 (by omega)) (fun _ => tJ0 (hk M (fun _ _ => rfl) (fun _ _ => rfl) h28))
  | succ k ih =>
    intro q M hq hb h28 hk
    unfold wX12_next_65
    rw [h28]
    unfold dgR at hk
    refine b_mdig hb (by omega) (fun z => tJ1 ?_) (fun z => tJ0 ?_)
    · rw [if_pos z.2] at hk
      rw [h28]
      refine ih (q + 1) _ (by omega) (hb.fr ⟨fun c hc => up_cell hc, fun i _ a _ => up_nei a⟩) (by rw [up_eq]; omega) (fun M' k1 k2 k3 => hk M' (fun c hc => by rw [k1 c hc, up_cell hc]) (fun i a => by rw [k2 i a, up_nei a]) k3)
    · rw [if_neg (fun y => z ⟨by omega, y⟩)] at hk
      exact hk M (fun _ _ => rfl) (fun _ _ => rfl) h28
theorem l_next46 {M : Mm} {Q : Mm → Prop} (hb : BM M b n) (hp : p ≤ n) (h27 : M 102 27 = (p : Int)) (hk : ∀ M', FrN M M' → TM M' b n p → Q M') : wX12_next_46 Q M := by
  have h400 := hb.2.1
  have f1 : FrN M (up M 102 28 (p : Int)) := ⟨fun c hc => up_cell hc, fun i _ a => up_nei a⟩
  have hb1 := hb.fr f1.toD
  unfold wX12_next_46
  rw [h27]
  refine b_mdig hb1 hp (fun z => tJ1 ?_) (fun z => tJ0 ?_)
  · have ee : en b n p = dgR b (n - p) p := by unfold en; rw [if_pos z.1, if_pos z.2]
    refine ⟨n - p + 1, l_mnum (b := b) (n := n) (n - p) p _ (by omega) hb1 up_eq (fun M' k1 k2 k3 => hk M' ⟨fun c hc => by rw [k1 c hc, up_cell hc], fun i _ a => by rw [k2 i a, up_nei a]⟩ ⟨?_, ?_⟩)⟩
    · rw [k2 27 (by decide), up_nei (by decide)]; exact h27
    · rw [k3, ee]
  · rw [up_nei (show (27 : Int) ≠ 28 by decide), h27, up_nei (show (26 : Int) ≠ 28 by decide), hb.1, up_eq]
    refine ⟨(inRof ⟨by omega, by omega⟩), (inRof ⟨by omega, by omega⟩), ?_⟩
    by_cases c : p < n
    · rw [if_pos (by omega)]
      have ee : en b n p = p + 1 := by unfold en; rw [if_pos c, if_neg (fun y => z ⟨c, y⟩)]
      exact hk _ ⟨fun c hc => by rw [up_cell hc, up_cell hc], fun i _ a => by rw [up_nei a, up_nei a]⟩ ⟨by rw [up_nei (by decide), up_nei (by decide)]; exact h27, by rw [up_eq, ee]; omega⟩
    · rw [if_neg (by omega)]
      have ee : en b n p = p := by unfold en; rw [if_neg c]
      exact hk _ f1 ⟨by rw [up_nei (by decide)]; exact h27, by rw [up_eq, ee]⟩
theorem l_next8 {Q : Mm → Prop} : ∀ (k p : Nat) (M : Mm), p + k = n → BM M b n → M 102 27 = (p : Int) → (∀ M', FrN M M' → TM M' b n (skR b k p) → Q M') → wX12_next_8 Q (k + 1) M := by
  intro k
  induction k with
  | zero =>
    intro p M hp hb h27 hk
    have h400 := hb.2.1
    unfold wX12_next_8
    rw [h27, hb.1]
    refine ⟨(inRof ⟨by omega, by omega⟩), (inRof ⟨by omega, by omega⟩), ?_⟩
    rw [if_neg (by omega)]
    exact l_next46 hb (by omega) h27 hk
  | succ k ih =>
    intro p M hp hb h27 hk
    have h400 := hb.2.1
    have hbp := hb.2.2 p (by omega)
    unfold wX12_next_8
    rw [h27, hb.1]
    refine ⟨(inRof ⟨by omega, by omega⟩), (inRof ⟨by omega, by omega⟩), ?_⟩
    rw [if_pos (by omega), hbp.1]
    unfold skR at hk
    by_cases c2 : b p < 128
    · rw [if_pos c2]
      refine ⟨⟨by omega, by omega⟩, (inRof ⟨by omega, by omega⟩), ?_⟩
      by_cases q : b p = 32
      · rw [if_pos q]
        rw [if_pos q] at hk
        have f1 : FrN M (up M 102 27 ((p : Int) + 1)) := ⟨fun c hc => up_cell hc, fun i a _ => up_nei a⟩
        exact ih (p + 1) _ (by omega) (hb.fr f1.toD) (by rw [up_eq]; omega) (fun M' f2 => hk M' (f1.trans f2))
      · rw [if_neg q]
        rw [if_neg q] at hk
        exact l_next46 hb (by omega) h27 hk
    · rw [if_neg c2]
      refine ⟨⟨by omega, by omega⟩, (inRof ⟨by omega, by omega⟩), ?_⟩
      rw [if_neg (by omega)]
      rw [if_neg (by omega)] at hk
      exact l_next46 hb (by omega) h27 hk
theorem b_next {M : Mm} (hb : BM M b n) (hp : p ≤ n) (h28 : M 102 28 = (p : Int)) (hk : ∀ M', FrN M M' → BM M' b n → TM M' b n (sk b n p) → kv M') : Bv (wX12_next M) kv := by
  apply Bv.of; unfold wX12_next
  rw [h28]
  have f1 : FrN M (up M 102 27 (p : Int)) := ⟨fun c hc => up_cell hc, fun i a _ => up_nei a⟩
  exact ⟨n - p + 1, l_next8 (n - p) p _ (by omega) (hb.fr f1.toD) up_eq (fun M' f2 t => hk M' (f1.trans f2) (hb.fr (f1.trans f2).toD) t)⟩
theorem b_nextT {M : Mm} (hb : BM M b n) (hp : p ≤ n) (ht : TM M b n p) (hk : ∀ M', FrN M M' → BM M' b n → TM M' b n (nx b n p) → kv M') : Bv (wX12_next M) kv := b_next hb (en_range (b := b) hp).2 ht.2 hk
theorem i_good1 {M : Mm} (hg : M 102 30 = -1) (h : C M) : Bd (wX12_good M) (fun r M => inR r ∧ (if r = 0 then A M else C M)) := by
  apply Bd.of; unfold wX12_good
  rw [hg]
  refine ⟨(inRl (by decide)), ?_⟩
  rw [if_pos rfl]
  exact tJ1 h
theorem i_good0 {M : Mm} (hg : Fl M) (h : A M) : Bd (wX12_good M) (fun r M => inR r ∧ (if r = 0 then A M else C M)) := by
  have h1 := hg.1
  have h2 := hg.2
  apply Bd.of; unfold wX12_good
  refine ⟨(inRof ⟨by omega, by omega⟩), ?_⟩
  rw [if_neg (by omega)]
  exact tJ0 h
theorem b_faults1 {M : Mm} (hg : M 102 30 = -1) (ht : TM M b n p) (hk : ∀ M', FrD M M' → M' 102 30 = (p : Int) → kv M') : Bv (wX12_faults M) kv := by
  apply Bv.of; unfold wX12_faults
  refine i_good1 hg ?_
  rw [ht.1]
  exact hk _ ⟨fun c hc => up_cell hc, fun i _ _ a => up_nei a⟩ up_eq
theorem b_faults0 {M : Mm} (hg : Fl M) (hk : kv M) : Bv (wX12_faults M) kv := by
  apply Bv.of; unfold wX12_faults
  exact i_good0 hg hk
theorem b_takes1 {M : Mm} {c : Int} (hc : (0 ≤ c ∧ c ≤ 127) ∧ ¬ (48 ≤ c ∧ c ≤ 57)) (hb : BM M b n) (hp : p ≤ n) (hg : M 102 30 = -1) (ht : TM M b n p) (h1 : tk b n p = c → ∀ M', FrN M M' → BM M' b n → TM M' b n (nx b n p) → kk 1 M') (h0 : tk b n p ≠ c → kk 0 M) : Bd (wX12_takes c M) kk := by
  have h400 := hb.2.1
  apply Bd.of; unfold wX12_takes
  refine i_good1 hg ?_
  rw [ht.1, hb.1]
  refine ⟨(inRof ⟨by omega, by omega⟩), (inRof ⟨by omega, by omega⟩), ?_⟩
  unfold tk at h1 h0
  by_cases q : p < n
  · have hbp := hb.2.2 p q
    rw [if_pos (by omega), hbp.1]
    rw [if_pos q] at h1 h0
    refine ⟨⟨by omega, by omega⟩, ?_⟩
    by_cases c2 : b p < 128
    · rw [if_pos c2]
      refine ⟨(inRof ⟨by omega, by omega⟩), (inRof ⟨by omega, by omega⟩), ?_⟩
      by_cases c3 : b p = c
      · rw [if_pos c3]
        rw [if_neg (by omega)] at h1
        exact b_nextT hb hp ht (h1 c3)
      · rw [if_neg c3]
        refine h0 ?_
        split <;> omega
    · rw [if_neg c2]
      refine ⟨(inRof ⟨by omega, by omega⟩), (inRof ⟨by omega, by omega⟩), ?_⟩
      rw [if_neg (by omega)]
      refine h0 ?_
      split <;> omega
  · rw [if_neg (by omega)]
    rw [if_neg q] at h0
    exact h0 (by omega)
theorem b_takes0 {M : Mm} {c : Int} (hg : Fl M) (hk : kk 0 M) : Bd (wX12_takes c M) kk := by
  apply Bd.of; unfold wX12_takes
  exact i_good0 hg hk
theorem b_need1 {M : Mm} {c : Int} (hc : (0 ≤ c ∧ c ≤ 127) ∧ ¬ (48 ≤ c ∧ c ≤ 57)) (hb : BM M b n) (hp : p ≤ n) (hg : M 102 30 = -1) (ht : TM M b n p) (h1 : tk b n p = c → ∀ M', FrN M M' → BM M' b n → TM M' b n (nx b n p) → kv M') (h0 : tk b n p ≠ c → ∀ M', FrD M M' → M' 102 30 = (p : Int) → kv M') : Bv (wX12_need c M) kv := by
  apply Bv.of; unfold wX12_need
  exact b_takes1 hc hb hp hg ht (fun z M' f hb' t => tJ1 (h1 z M' f hb' t)) (fun z => tJ0 (b_faults1 hg ht (h0 z)))
theorem b_need0 {M : Mm} {c : Int} (hg : Fl M) (hk : kv M) : Bv (wX12_need c M) kv := by
  apply Bv.of; unfold wX12_need
  exact b_takes0 hg (tJ0 (b_faults0 hg hk))
theorem tk_num (hb : p < n → 0 ≤ b p ∧ b p ≤ 255) : tk b n p = 256 ↔ p < n ∧ 48 ≤ b p ∧ b p ≤ 57 := by
  unfold tk
  by_cases q : p < n
  · rw [if_pos q]
    have := hb q
    by_cases c : 48 ≤ b p ∧ b p ≤ 57
    · rw [if_pos c]; exact ⟨fun _ => ⟨q, c⟩, fun _ => rfl⟩
    · rw [if_neg c]; exact ⟨fun z => by omega, fun z => absurd z.2 c⟩
  · rw [if_neg q]; exact ⟨fun z => by omega, fun z => absurd z.1 q⟩
theorem l_al63 {M : Mm} {Q : Int → Mm → Prop} {S : Nat} {w : Int} (hS : S < 16777216) (hb : BM M b n) (hp : p ≤ n) (hg : M 102 30 = -1) (ht : TM M b n p) (hw : 0 ≤ w ∧ w ≤ 300) (hv : p < n ∧ 48 ≤ b p ∧ b p ≤ 57 → va b n p = min w 24) (h1 : lg b n S p → ∀ M', FrN M M' → BM M' b n → TM M' b n (nx b n p) → Q ((va b n p).toNat : Int) M') (h0 : ¬ lg b n S p → ∀ M', FrD M M' → M' 102 30 = (p : Int) → Q (-1) M') : wX12_aLog_63 Q (S : Int) w M := by
  have tn := tk_num (p := p) (n := n) (fun q => (hb.2.2 p q).2)
  unfold wX12_aLog_63
  rw [ht.1]
  refine b_mdig hb hp (fun z => tJ1 ?_) (fun z => tJ0 ?_)
  · refine ⟨(inRof ⟨by omega, by omega⟩), ?_⟩
    have hv := hv z
    by_cases c : w < 24
    · rw [if_pos c]
      have e : va b n p = w := by omega
      have e2 : w = ((va b n p).toNat : Int) := by omega
      have hb' := bit01 (n := S) (j := (va b n p).toNat) (by omega) (by omega)
      rw [← e2] at hb'
      by_cases c3 : S.testBit (va b n p).toNat = true
      · rw [if_neg (fun y => hb'.2.mp y c3)]
        refine b_nextT hb hp ht ?_
        rw [e2]
        exact h1 ⟨tn.mpr z, by omega, c3⟩
      · rw [if_pos (hb'.2.mpr c3)]
        exact b_faults1 hg ht (h0 (fun y => c3 y.2.2))
    · rw [if_neg c]
      exact b_faults1 hg ht (h0 (fun y => by have := y.2.1; omega))
  · exact b_faults1 hg ht (h0 (fun y => z (tn.mp y.1)))
theorem l_al16 {M : Mm} {Q : Int → Mm → Prop} {S : Nat} (hS : S < 16777216) (hb : BM M b n) (hp : p ≤ n) (hg : M 102 30 = -1) (ht : TM M b n p) (h1 : lg b n S p → ∀ M', FrN M M' → BM M' b n → TM M' b n (nx b n p) → Q ((va b n p).toNat : Int) M') (h0 : ¬ lg b n S p → ∀ M', FrD M M' → M' 102 30 = (p : Int) → Q (-1) M') : ∀ (k q : Nat) (w : Int), q + k = n → dgR b k q = en b n p → vaR b k q (min w 24) = va b n p → 0 ≤ w ∧ w ≤ 249 → wX12_aLog_16 Q (S : Int) (k + 1) w (q : Int) M := by
  have h400 := hb.2.1
  have her := en_range (b := b) hp
  intro k
  induction k with
  | zero =>
    intro q w hq he hv hw
    unfold wX12_aLog_16
    have he : q = en b n p := he
    have hv : min w 24 = va b n p := hv
    rw [ht.2]
    refine ⟨(inRof ⟨by omega, by omega⟩), (inRof ⟨by omega, by omega⟩), ?_⟩
    rw [if_neg (by omega)]
    exact l_al63 hS hb hp hg ht (by omega) (fun _ => hv.symm) h1 h0
  | succ k ih =>
    intro q w hq he hv hw
    unfold wX12_aLog_16
    unfold dgR at he
    unfold vaR at hv
    rw [ht.2]
    refine ⟨(inRof ⟨by omega, by omega⟩), (inRof ⟨by omega, by omega⟩), ?_⟩
    have hbq := hb.2.2 q (by omega)
    by_cases c : 48 ≤ b q ∧ b q ≤ 57
    · rw [if_pos c] at he hv
      have := dgR_range b k (q + 1)
      rw [if_pos (by omega)]
      refine b_mdig hb (by omega) (fun z => tJ1 ?_) (fun z => absurd ⟨by omega, c⟩ z)
      refine ⟨(inRof ⟨by omega, by omega⟩), ?_⟩
      by_cases c2 : w ≤ 24
      · rw [if_pos c2, hbq.1, if_pos (by omega)]
        refine ⟨⟨by omega, by omega⟩, ?_⟩
        refine ih (q + 1) _ (by omega) he ?_ (by omega)
        rw [← hv]
        rw [show min (10 * w + b q - 48) 24 = min (min w 24 * 10 + b q - 48) 24 by omega]
      · rw [if_neg c2]
        refine ih (q + 1) _ (by omega) he ?_ (by omega)
        rw [← hv]
        rw [show min w 24 = min (min w 24 * 10 + b q - 48) 24 by omega]
        rw [show min (min (min w 24 * 10 + b q - 48) 24 * 10 + b q - 48) 24 = min (min w 24 * 10 + b q - 48) 24 by omega]
    · rw [if_neg c] at he hv
      rw [if_neg (by omega)]
      exact l_al63 hS hb hp hg ht (by omega) (fun _ => hv.symm) h1 h0
theorem b_aLog {M : Mm} {S : Nat} (hS : S < 16777216) (hb : BM M b n) (hp : p ≤ n) (hg : M 102 30 = -1) (ht : TM M b n p) (h1 : lg b n S p → ∀ M', FrN M M' → BM M' b n → TM M' b n (nx b n p) → kk ((va b n p).toNat : Int) M') (h0 : ¬ lg b n S p → ∀ M', FrD M M' → M' 102 30 = (p : Int) → kk (-1) M') : Bd (wX12_aLog (S : Int) M) kk := by
  have h400 := hb.2.1
  apply Bd.of; unfold wX12_aLog
  refine i_good1 hg ?_
  rw [ht.1]
  refine ⟨n - p + 1, ?_⟩
  by_cases c : p < n ∧ 48 ≤ b p ∧ b p ≤ 57
  · exact l_al16 hS hb hp hg ht h1 h0 (n - p) p 0 (by omega) (by unfold en; rw [if_pos c.1, if_pos c.2]) rfl (by omega)
  · unfold wX12_aLog_16
    have her := en_range (b := b) hp
    rw [ht.2]
    refine ⟨(inRof ⟨by omega, by omega⟩), (inRof ⟨by omega, by omega⟩), ?_⟩
    by_cases q : (p : Int) < ((en b n p : Nat) : Int)
    · rw [if_pos q]
      exact b_mdig hb hp (fun z => absurd z c) (fun _ => tJ0 (l_al63 hS hb hp hg ht (by omega) (fun z => absurd z c) h1 h0))
    · rw [if_neg q]
      exact l_al63 hS hb hp hg ht (by omega) (fun z => absurd z c) h1 h0
end Mtok
