/-! ===== the machine of my own: values, memory, world, context ===== -/
/-- an abstract value: a whole number (int), a whole number (long), a cell's number or null -/
abbrev AV : Type := Int ⊕ (Int ⊕ Option Nat)
abbrev aI (x : Int) : AV := Sum.inl x
abbrev aL (x : Int) : AV := Sum.inr (Sum.inl x)
abbrev aQ (r : Option Nat) : AV := Sum.inr (Sum.inr r)
abbrev aR (k : Nat) : AV := Sum.inr (Sum.inr (some k))
/-- memory: cell, place -> number -/
abbrev Mm : Type := Nat → Int → Int
abbrev Rm : Type := Nat → Nat → Option Nat
/-- how many cells there are, what their references are, what their numbers are -/
abbrev Zm : Type := Nat × Rm × Mm
/-- where the first cell lies, where the script lies, the classes, their slots, the array classes -/
abbrev Gp : Type := Nat × Nat × (Nat → ClassId) × (Nat → Nat → Nat) × (Nat → ClassId)
def adr (g : Gp) (k : Nat) : Nat := if k = 1000 then g.2.1 else g.1 + k
def cv (g : Gp) : AV → Value
  | .inl x => .int (Int32.ofInt x)
  | .inr (.inl x) => .long (Int64.ofInt x)
  | .inr (.inr none) => .null
  | .inr (.inr (some k)) => .ref (adr g k)
def isL : AV → Bool
  | .inr (.inl _) => true
  | _ => false
theorem cv_cat (g : Gp) (v : AV) : ((cv g v).category == 2) = isL v := by
  rcases v with x | x | _ | k <;> rfl
abbrev Kd : Type := Nat ⊕ (Nat × Nat)
def upA (f : Int → Int) (i v : Int) : Int → Int := fun j => if j = i then v else f j
def up (M : Mm) (c : Nat) (i v : Int) : Mm := fun c' => if c' = c then upA (M c) i v else M c'
def upR (ρ : Rm) (c j : Nat) (v : Option Nat) : Rm := fun c' j' => if c' = c ∧ j' = j then v else ρ c' j'
def inR (x : Int) : Prop := -2147483648 ≤ x ∧ x ≤ 2147483647
def inR64 (x : Int) : Prop := -9223372036854775808 ≤ x ∧ x ≤ 9223372036854775807
/-- what a field holds, by its type: 1 long, 2 reference, else int -/
def fval (g : Gp) (t : Nat) (x : Int) (r : Option Nat) : Value := match t with
  | 1 => .long (Int64.ofInt x)
  | 2 => cv g (aQ r)
  | _ => .int (Int32.ofInt x)
def NF (ci : Nat) : Nat := (FTl.getD ci []).length
def FT (ci k : Nat) : Nat := (FTl.getD ci []).getD k 0
def KD (k : Nat) : Kd := KDl.getD k (.inr (0, 0))
def ent (g : Gp) (ρ : Rm) (M : Mm) (k : Nat) : va_E := match KD k with
  | .inl ci => .inr (ci, (List.range (NF ci)).map (fun j => fval g (FT ci j) (M k (j : Int)) (ρ k j)))
  | .inr (3, n) => .inl (g.2.2.2.2 3, n, .inr (.inr (.inr (.inr (fun j => (ρ k j).map (adr g))))))
  | .inr (t, n) => .inl (g.2.2.2.2 t, n, .inl (fun j => Int32.ofInt (M k (j : Int))))
def wsOf (g : Gp) (Z : Zm) : va_W := (List.range Z.1).map (fun k => (g.1 + k, ent g Z.2.1 Z.2.2 k))
abbrev tysOf (g : Gp) : List (ClassId × FieldType) := [(g.2.2.2.2 0, .int), (g.2.2.2.2 1, .boolean), (g.2.2.2.2 2, .byte), (g.2.2.2.2 3, .object "ShipSkins$Book")]
def isNest : Cond → Bool
  | .methodLinkNest _ _ _ _ => true
  | .fieldLinkNest _ _ _ _ _ _ => true
  | .arrayOver (.object _) => true
  | _ => false
def GW : List Cond := lw_tbl.filter goodWord
def NW : List Cond := lw_tbl.filter isNest
theorem gw_of {w : Cond} (i : Nat) (h : lw_tbl[i]? = some w) (hg : goodWord w = true) : w ∈ GW := List.mem_filter.mpr ⟨List.mem_of_getElem? h, hg⟩
theorem nw_of {w : Cond} (i : Nat) (h : lw_tbl[i]? = some w) (hg : isNest w = true) : w ∈ NW := List.mem_filter.mpr ⟨List.mem_of_getElem? h, hg⟩
theorem gw_good {w : Cond} (h : w ∈ GW) : goodWord w = true := (List.mem_filter.mp h).2
/-- the context of a method's walk -/
abbrev Cx : Type := Program × Launch × Env × Room × State × MethodId × Array Value × List Frame × Method × Code × Gp
abbrev Af (g : Gp) : Nat → Prop := fun q => g.1 ≤ q
def WO (g : Gp) (Z : Zm) (s : State) (H : Heap) (locs : List Loc) : Prop := (Z.1 < NC → H.size = g.1 + Z.1) ∧ va_P (g.2.2.1, g.2.2.2.1) vwCl (wsOf g Z) H ∧ va_S (Af g) s.heap H locs
def cls (g : Gp) (ls : List (Nat × AV)) : List (Nat × Value) := ls.map (fun q => (q.1, cv g q.2))
def Wa (Γ : Cx) (nL : Nat) (K : State → Prop) (kc ks pc : Nat) (ls : List (Nat × AV)) (st : List AV) (Z : Zm) : Prop := match Γ with
  | (p, l, e, R, s, m, args, below, meth, c, g) => ∀ (H : Heap) (locs : List Loc) (lsA : Array Slot), WO g Z s H locs → lv_has lsA nL (cls g ls) → W p l e R s m args below meth c H locs kc ks K (F0 m pc lsA (st.map (cv g)))
def Ok (Γ : Cx) (cc : ByteArray) (own : String) (nL h kC kS : Nat) : Prop := match Γ with
  | (p, _, _, R, s, m, args, _, meth, c, g) => p.tables.exec = Jvm.exec ∧ c.code = cc ∧ c.maxLocals = nL ∧ s.vm.findClass own = some m.cls ∧ (∀ w ∈ GW, w.before args s = true) ∧ (∀ w ∈ NW, va_Nw w s) ∧ va_K (g.2.2.1, g.2.2.2.1) vwCl (tysOf g) s ∧ h ≤ R.frames ∧ 40 * h ≤ R.locals ∧ kC ≤ R.cells ∧ kS ≤ R.slots ∧ meth.locks = false ∧ g.1 ≤ s.heap.size
theorem cls_lk {g : Gp} {nL : Nat} {lsA : Array Slot} {ls : List (Nat × AV)} (hl : lv_has lsA nL (cls g ls)) (k : Nat) {i : Nat} {v : AV} (h : ls[k]? = some (i, v)) : lsA[i]? = some (.val (cv g v)) := by
  refine lv_at hl k ?_
  simp [cls, h]
section Rows1
variable {Γ : Cx} {cc : ByteArray} {own : String} {nL h kC kS : Nat} {K : State → Prop} {kc ks pc : Nat} {ls : List (Nat × AV)} {st : List AV} {Z : Zm}
theorem a_sub {ls' : List (Nat × AV)} (is : List Nat) (hs : is.filterMap (fun i => ls[i]?) = ls') (k : Wa Γ nL K kc ks pc ls' st Z) : Wa Γ nL K kc ks pc ls st Z := by
  obtain ⟨p, l, e, R, s, m, args, below, meth, c, g⟩ := Γ
  intro H locs lsA hW hl
  refine k H locs lsA hW ⟨hl.1, hl.2.1, fun q hq => ?_⟩
  obtain ⟨r, hr, rfl⟩ := List.mem_map.mp hq
  rw [← hs] at hr
  obtain ⟨i, -, hi⟩ := List.mem_filterMap.mp hr
  exact cls_lk hl i hi
end Rows1
