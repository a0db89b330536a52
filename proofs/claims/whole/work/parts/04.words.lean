/-! the words -/
def mGood (w : Cond) : Bool := (w.onTables && w.keeps) || (match w with
  | .arrayClass _ => true
  | _ => false)
def mTs : List Cond := lw_tbl.filter mGood
theorem mTs_good (w : Cond) (h : w ∈ mTs) : w ∈ mTs ∧ ((w.onTables && w.keeps) = true ∨ ∃ ty, w = .arrayClass ty) := by
  refine ⟨h, ?_⟩
  have h2 := (List.mem_filter.mp h).2
  unfold mGood at h2
  rcases Bool.or_eq_true _ _ ▸ h2 with h3 | h3
  · exact Or.inl h3
  · cases w <;> first | exact Or.inr ⟨_, rfl⟩ | cases h3
theorem mTs_mem {w : Cond} (h : w ∈ lw_tbl) (hg : mGood w = true) : w ∈ mTs := List.mem_filter.mpr ⟨h, hg⟩
/-- words of nest mates: they are carried beside -/
def mNest (w : Cond) : Bool := match w with
  | .methodLinkNest _ _ _ _ => true
  | .fieldLinkNest _ _ _ _ _ _ => true
  | _ => false
def mTn : List Cond := lw_tbl.filter mNest
theorem mTn_mem {w : Cond} (h : w ∈ lw_tbl) (hg : mNest w = true) : w ∈ mTn := List.mem_filter.mpr ⟨h, hg⟩
abbrev mM : Type := MethodName × ByteArray × Nat × Option FieldType
/-- a field's link: own class, pool entry, the field's class and number -/
def mFL (own : String) (idx ci j : Nat) : Prop := ∃ q : vw_C, vwCl[ci]? = some q ∧ j < q.2.2 ∧ Cond.fieldLink own idx (q.2.1 j).1 (q.2.1 j).2.1 (q.2.1 j).2.2.1 ∈ mTs
def mAc (t : Nat) : Nat := match t with
  | 0 => 1
  | 1 => 5
  | _ => 7
/-- a method's own words: its code, its class's start, its number of parameters, few locals -/
def mMk (k : mM) (n : Nat) : Prop := Cond.code k.1 k.2.1 k.2.2.1 k.2.2.2 ∈ mTs ∧ Cond.initialized k.1.cls ∈ mTs ∧ (k.1.cls ≠ "java/lang/invoke/MethodHandle" ∧ k.1.cls ≠ "java/lang/invoke/VarHandle" ∧ (parseMethodDescriptor k.1.desc).map (fun d => d.parameters.length) = some n) ∧ k.2.2.1 ≤ 40
def mLk (own : String) (idx : Nat) (y : MethodName) : Prop := Cond.methodLink own idx y ∈ mTs ∨ ∃ host, Cond.methodLinkNest own idx y host ∈ mTn
def mLV (own : String) (idx : Nat) (k : mM) (ci n : Nat) : Prop := mMk k n ∧ Cond.instanceMethod k.1 ∈ mTs ∧ Cond.selects k.1.cls k.1 k.1 ∈ mTs ∧ (∃ q : vw_C, vwCl[ci]? = some q ∧ q.1 = k.1.cls) ∧ mLk own idx k.1
def mLS (own : String) (idx : Nat) (k : mM) (n : Nat) : Prop := mMk k n ∧ Cond.static k.1 ∈ mTs ∧ mLk own idx k.1
def mLI (own : String) (idx : Nat) (k : mM) (n : Nat) : Prop := mMk k n ∧ (k.1.name = "<init>" ∧ k.2.2.2 = none) ∧ Cond.instanceMethod k.1 ∈ mTs ∧ mLk own idx k.1
