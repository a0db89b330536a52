/-! THE STORE: values, heaps by ids (ids below 8: constants of the launch; cells that the law makes: from 8 on, in the order of their making) -/
abbrev mV : Type := Int32 ⊕ Option Nat
abbrev mH : Type := Nat × (Nat → Nat) × (Nat → Nat) × (Nat → Nat → Int32) × (Nat → Nat → Option Nat)
def mN (h : mH) : Nat := h.1
def mT (h : mH) : Nat → Nat := h.2.1
def mL (h : mH) : Nat → Nat := h.2.2.1
def mI (h : mH) : Nat → Nat → Int32 := h.2.2.2.1
def mR (h : mH) : Nat → Nat → Option Nat := h.2.2.2.2
def mU {α : Type} (f : Nat → Nat → α) (a k : Nat) (v : α) : Nat → Nat → α := fun a' => if a' = a then fun k' => if k' = k then v else f a k' else f a'
def mSI (h : mH) (a k : Nat) (x : Int32) : mH := (h.1, h.2.1, h.2.2.1, mU h.2.2.2.1 a k x, h.2.2.2.2)
def mSR (h : mH) (a k : Nat) (x : Option Nat) : mH := (h.1, h.2.1, h.2.2.1, h.2.2.2.1, mU h.2.2.2.2 a k x)
/-- a new cell: its tag, its length -/
def mAl (h : mH) (t n : Nat) : mH := (h.1 + 1, fun a => if a = h.1 then t else h.2.1 a, fun a => if a = h.1 then n else h.2.2.1 a, fun a => if a = h.1 then fun _ => 0 else h.2.2.2.1 a, fun a => if a = h.1 then fun _ => none else h.2.2.2.2 a)
/-- what the launch fixes: class numbers and slots, array classes, the first new address, the constants' addresses, the launch, the script's length and ints -/
abbrev mG : Type := va_G × (Nat → ClassId) × Nat × (Nat → Nat) × Launch × Nat × (Nat → Int32)
def gD (G : mG) : va_G := G.1
def gA (G : mG) : Nat → ClassId := G.2.1
def gB (G : mG) : Nat := G.2.2.1
def gC (G : mG) : Nat → Nat := G.2.2.2.1
def gL (G : mG) : Launch := G.2.2.2.2.1
def gN (G : mG) : Nat := G.2.2.2.2.2.1
def gX (G : mG) : Nat → Int32 := G.2.2.2.2.2.2
/-- the address of an id (gC says it of every id: below 8 the constants', from 8 on that of a cell of the law) -/
def mRho (G : mG) (k : Nat) : Nat := gC G k
/-- the ids from 8 to N are N - 8 cells side by side behind gB, in some order; those from N on in theirs -/
def gOk (G : mG) (N : Nat) : Prop := (∀ k, N ≤ k → gC G k = gB G + (k - 8)) ∧ (∀ k, 8 ≤ k → k < N → gB G ≤ gC G k ∧ gC G k < gB G + (N - 8)) ∧ ∀ j k, 8 ≤ j → j < N → 8 ≤ k → k < N → gC G j = gC G k → j = k
theorem gOk.succ {G : mG} {N : Nat} (h8 : 8 ≤ N) (g : gOk G N) : gOk G (N + 1) := by
  obtain ⟨g1, g2, g3⟩ := g
  have gN := g1 N (Nat.le_refl _)
  refine ⟨fun k hk => g1 k (by omega), fun k h1 h2 => ?_, fun j k h1 h2 h3 h4 e => ?_⟩
  · by_cases z : k = N
    · rw [z, gN]; omega
    · have := g2 k h1 (by omega); omega
  · by_cases z : j = N
    · by_cases z2 : k = N
      · omega
      · exfalso
        have := g2 k h3 (by omega)
        rw [z, gN] at e
        omega
    · by_cases z2 : k = N
      · exfalso
        have := g2 j h1 (by omega)
        rw [z2, gN] at e
        omega
      · exact g3 j k h1 (by omega) h3 (by omega) e
theorem gOk.id {G : mG} {N : Nat} (h8 : 8 ≤ N) (h : ∀ k, 8 ≤ k → gC G k = gB G + (k - 8)) : gOk G N :=
  ⟨fun k hk => h k (by omega), fun k h1 h2 => by rw [h k h1]; omega, fun j k h1 h2 h3 h4 e => by rw [h j h1, h k h3] at e; omega⟩
def mTr (G : mG) : mV → Value
  | .inl x => .int x
  | .inr r => va_rf (r.map (mRho G))
theorem mTr_cat (G : mG) (v : mV) : (mTr G v).category = 1 := by
  rcases v with x | (_ | r) <;> rfl
def mTy (ci k : Nat) : FieldType := match ci with
  | 0 => tyX0 k
  | 1 => tyX1 k
  | 2 => tyX2 k
  | 3 => tyX3 k
  | 4 => tyX4 k
  | 5 => tyX5 k
  | 6 => tyX6 k
  | 7 => tyX7 k
  | 8 => tyX8 k
  | 9 => tyX9 k
  | 10 => tyX10 k
  | 11 => tyX11 k
  | _ => tyX12 k
def mFr (ci k : Nat) : Bool := match mTy ci k with
  | .object _ => true
  | .array _ => true
  | _ => false
def mNf (ci : Nat) : Nat := match vwCl[ci]? with
  | some q => q.2.2
  | none => 0
def mFs (G : mG) (h : mH) (a ci : Nat) : List Value := (List.range (mNf ci)).map (fun k => if mFr ci k = true then va_rf ((mR h a k).map (mRho G)) else .int (mI h a k))
def mTys (G : mG) : List (ClassId × FieldType) := [(gA G 0, .int), (gA G 1, .boolean), (gA G 2, .object RX1), (gA G 3, .object RX5), (gA G 4, .object RX7), (gA G 5, .byte)]
def mCell (G : mG) (h : mH) (a : Nat) : va_E :=
  if mT h a < 100 then .inr (mT h a - 1, mFs G h a (mT h a - 1))
  else if mT h a < 110 then .inl (gA G (mT h a - 100), mL h a, .inl (mI h a))
  else .inl (gA G (mT h a - 108), mL h a, .inr (.inr (.inr (.inr (fun j => (mR h a j).map (mRho G))))))
def mWs (G : mG) (h : mH) : va_W := (List.range (mN h - 8)).map (fun j => (mRho G (j + 8), mCell G h (j + 8)))
abbrev mA (G : mG) : Nat → Prop := fun q => gB G ≤ q
def mRel (G : mG) (h : mH) (H : Heap) : Prop := H.size = gB G + (mN h - 8) ∧ 8 ≤ mN h ∧ va_P (gD G) vwCl (mWs G h) H ∧ (∀ a, mT h a ≠ 0 → 8 ≤ a ∧ a < mN h) ∧ gOk G (mN h)
theorem mWs_at {G : mG} {h : mH} {a : Nat} (h1 : 8 ≤ a) (h2 : a < mN h) : (mWs G h)[a - 8]? = some (mRho G a, mCell G h a) := by
  unfold mWs
  rw [List.getElem?_map, List.getElem?_range (by omega)]
  have e : a - 8 + 8 = a := by omega
  simp only [Option.map_some, e]
theorem mWs_D (G : mG) (h : mH) (g : gOk G (mN h)) : va_D (mA G) (mWs G h) := by
  have key : ∀ (i : Nat) (q : Nat × va_E), (mWs G h)[i]? = some q → i < mN h - 8 ∧ q.1 = gC G (i + 8) := by
    intro i q hq
    unfold mWs at hq
    rw [List.getElem?_map] at hq
    cases hr : (List.range (mN h - 8))[i]? with
    | none => rw [hr] at hq; cases hq
    | some j =>
      rw [hr] at hq
      cases hq
      obtain ⟨h1, h2⟩ := List.getElem?_eq_some_iff.mp hr
      simp at h1 h2
      subst h2
      exact ⟨h1, rfl⟩
  refine ⟨fun i j p q hi hj e => ?_, fun k q hk => ?_⟩
  · obtain ⟨i1, i2⟩ := key i p hi
    obtain ⟨j1, j2⟩ := key j q hj
    have := g.2.2 (i + 8) (j + 8) (by omega) (by omega) (by omega) (by omega) (by rw [← i2, ← j2]; exact e)
    omega
  · obtain ⟨k1, k2⟩ := key k q hk
    show gB G ≤ q.1
    rw [k2]
    exact (g.2.1 (k + 8) (by omega) (by omega)).1
theorem mWs_set {G : mG} {h h' : mH} {a : Nat} {e : va_E} (h1 : 8 ≤ a) (hn : mN h' = mN h) (hc : mCell G h' a = e) (ho : ∀ k, k ≠ a → mCell G h' k = mCell G h k) : (mWs G h).set (a - 8) (mRho G a, e) = mWs G h' := by
  apply List.ext_getElem?
  intro i
  by_cases hi : i = a - 8
  · subst hi
    by_cases hl : a < mN h
    · rw [List.getElem?_set_self (by simp [mWs]; omega), mWs_at h1 (by rw [hn]; exact hl), hc]
    · rw [List.getElem?_eq_none (by simp [mWs]; omega), List.getElem?_eq_none (by simp [mWs]; omega)]
  · rw [List.getElem?_set_ne (Ne.symm hi)]
    unfold mWs
    rw [hn, List.getElem?_map, List.getElem?_map]
    cases hr : (List.range (mN h - 8))[i]? with
    | none => rfl
    | some j =>
      have hj : j = i := by
        obtain ⟨h3, h2⟩ := List.getElem?_eq_some_iff.mp hr
        simp at h2
        exact h2.symm
      subst hj
      simp only [Option.map_some]
      rw [ho (j + 8) (by omega)]
theorem mRel.at {G : mG} {h : mH} {H : Heap} (r : mRel G h H) {a t : Nat} (ht : mT h a = t) (h0 : 0 < t) : 8 ≤ a ∧ a < mN h ∧ (mWs G h)[a - 8]? = some (mRho G a, mCell G h a) := by
  obtain ⟨h1, h2⟩ := r.2.2.2.1 a (by omega)
  exact ⟨h1, h2, mWs_at h1 h2⟩
theorem mCell_obj {G : mG} {h : mH} {a ci : Nat} (ht : mT h a = ci + 1) (hc : ci < 50) : mCell G h a = .inr (ci, mFs G h a ci) := by
  unfold mCell
  rw [if_pos (by omega), ht]
  rfl
theorem mCell_int {G : mG} {h : mH} {a : Nat} (ht : mT h a = 100) : mCell G h a = .inl (gA G 0, mL h a, .inl (mI h a)) := by
  unfold mCell
  rw [if_neg (by omega), if_pos (by omega), ht]
theorem mCell_bool {G : mG} {h : mH} {a : Nat} (ht : mT h a = 101) : mCell G h a = .inl (gA G 1, mL h a, .inl (mI h a)) := by
  unfold mCell
  rw [if_neg (by omega), if_pos (by omega), ht]
theorem mCell_byte {G : mG} {h : mH} {a : Nat} (ht : mT h a = 105) : mCell G h a = .inl (gA G 5, mL h a, .inl (mI h a)) := by
  unfold mCell
  rw [if_neg (by omega), if_pos (by omega), ht]
theorem mCell_ref {G : mG} {h : mH} {a t : Nat} (ht : mT h a = 110 + t) : mCell G h a = .inl (gA G (2 + t), mL h a, .inr (.inr (.inr (.inr (fun j => (mR h a j).map (mRho G)))))) := by
  unfold mCell
  rw [if_neg (by omega), if_neg (by omega), ht, show 110 + t - 108 = 2 + t by omega]
theorem mFs_at {G : mG} {h : mH} {a ci k : Nat} (hk : k < mNf ci) : (mFs G h a ci)[k]? = some (if mFr ci k = true then va_rf ((mR h a k).map (mRho G)) else .int (mI h a k)) := by
  unfold mFs
  rw [List.getElem?_map, List.getElem?_range hk]
  rfl
theorem mFs_len {G : mG} {h : mH} {a ci : Nat} : (mFs G h a ci).length = mNf ci := by simp [mFs]
theorem mCell_off {G : mG} {h h' : mH} {k : Nat} (ht : mT h' k = mT h k) (hl : mL h' k = mL h k) (hi : mI h' k = mI h k) (hr : mR h' k = mR h k) : mCell G h' k = mCell G h k := by
  unfold mCell mFs
  rw [ht, hl, hi, hr]
theorem mU_off {α : Type} {f : Nat → Nat → α} {a k b : Nat} {v : α} (hb : b ≠ a) : mU f a k v b = f b := by simp [mU, hb]
theorem mU_on {α : Type} {f : Nat → Nat → α} {a k : Nat} {v : α} : mU f a k v a = fun j => if j = k then v else f a j := by simp [mU]
theorem mTn_warm {s U : State} (hW : s.WarmedH U.vm) (h : ∀ w ∈ mTn, va_Nw w s) : ∀ w ∈ mTn, va_Nw w U := by
  intro w hw
  have h2 := (List.mem_filter.mp hw).2
  have h1 := h w hw
  cases w <;> first | exact va_Nw.warmM hW h1 | exact va_Nw.warmF hW h1 | cases h2
theorem mTn_same {s U : State} (hv : s.vm = U.vm) (h : ∀ w ∈ mTn, va_Nw w s) : ∀ w ∈ mTn, va_Nw w U := by
  intro w hw
  have h2 := (List.mem_filter.mp hw).2
  have h1 := h w hw
  cases w <;> first | exact va_Nw.same rfl hv h1 | cases h2
/-! what the launch says, as a state of a method's start has it -/
def mBy : List (List Int32) := [[98, 107, 115, 104, 113, 100, 117, 114, 110]]
def mStX (j : Nat) : Int32 := match j with
  | 1 => 1
  | 3 => -1
  | _ => 0
def mStY (j : Nat) : Int32 := match j with
  | 0 => 1
  | 2 => -1
  | _ => 0
def mK (G : mG) (s : State) : Prop := va_K (gD G) vwCl (mTys G) s ∧ gB G ≤ s.heap.size ∧ (va_X (gC G 0) (gN G) (gX G) s s.heap ∧ gC G 0 < gB G) ∧
  (va_T .int (gC G 1) 4 (fun j => .int (mStX j)) (mA G) s s.heap ∧ va_Z RX11 "STEP_X" "[I" (.ref (gC G 1)) (mA G) s s.heap) ∧ (va_T .int (gC G 2) 4 (fun j => .int (mStY j)) (mA G) s s.heap ∧ va_Z RX11 "STEP_Y" "[I" (.ref (gC G 2)) (mA G) s s.heap) ∧
  vk_S 1 [9] mBy (fun _ => gC G 3) (fun _ => gC G 4) (mA G) s s.heap ∧ vk_R RX4 96 "bkshqdurn" (gC G 3) s ∧ va_Z "java/lang/String" "COMPACT_STRINGS" "Z" (.int 1) (mA G) s s.heap ∧ (∀ w ∈ mTn, va_Nw w s) ∧ va_AO RX1 s ∧ va_AO RX5 s ∧ va_AO RX7 s
theorem mK.moved {G : mG} {s U : State} (hW : s.WarmedH U.vm) (hz : s.heap.size ≤ U.heap.size) (hk : ∀ q : Nat, q < s.heap.size → ¬ gB G ≤ q → U.heap[q]? = s.heap[q]?) (h : mK G s) : mK G U := by
  have hvm := hW.alike
  obtain ⟨a1, a2, ⟨a3, a4⟩, ⟨a5, a6⟩, ⟨a7, a8⟩, a9, a10, a11, a12, a13, a14, a15⟩ := h
  exact ⟨a1.moved hvm, Nat.le_trans a2 hz, ⟨(a3.moved hvm).kept (hk _ (by omega) (by omega)), a4⟩, ⟨(a5.moved hvm).kept hk, (a6.moved hvm).kept hk⟩, ⟨(a7.moved hvm).kept hk, (a8.moved hvm).kept hk⟩, (a9.moved hvm).kept hk, a10.warm hW, (a11.moved hvm).kept hk, mTn_warm hW a12, a13.moved hvm, a14.moved hvm, a15.moved hvm⟩
theorem mK.calling {G : mG} {U : State} {g : JFrame} {mk : MethodId} {a : Array Value} (h : mK G U) : mK G (U.calling g mk a) := by
  have hvm : U.vm.Alike (U.calling g mk a).vm := Vm.Alike.refl U.vm
  obtain ⟨a1, a2, ⟨a3, a4⟩, ⟨a5, a6⟩, ⟨a7, a8⟩, a9, a10, a11, a12, a13, a14, a15⟩ := h
  exact ⟨a1.moved hvm, a2, ⟨a3.moved hvm, a4⟩, ⟨a5.moved hvm, a6.moved hvm⟩, ⟨a7.moved hvm, a8.moved hvm⟩, a9.moved hvm, a10.same rfl, a11.moved hvm, mTn_same (s := U) (U := U.calling g mk a) rfl a12, a13.moved hvm, a14.moved hvm, a15.moved hvm⟩
theorem mK.nest {G : mG} {s : State} (h : mK G s) {w : Cond} (hw : w ∈ mTn) : va_Nw w s := h.2.2.2.2.2.2.2.2.1 w hw
/-! THE JUDGEMENT: a method k (name, bytes, locals, what it answers) at depth d, with b cells and slots still to make -/
def mCx (G : mG) (k : mM) (p : Program) (s : State) (m : MethodId) (args : Array Value) (meth : Method) (c : Code) : Prop :=
  p.tables.exec = Jvm.exec ∧ c.code = k.2.1 ∧ meth.sig.returnType = k.2.2.2 ∧ c.maxLocals = k.2.2.1 ∧ s.vm.findClass k.1.cls = some m.cls ∧ (∀ w ∈ mTs, w.before args s = true) ∧ meth.locks = false ∧ (k.1.name = "<init>" → meth.name = "<init>") ∧ mK G s
def mLoc (G : mG) (LS : Array Slot) (n : Nat) (ls : List (Option mV)) : Prop := LS.size = n ∧ lv_wf LS ∧ ∀ (i : Nat) (v : mV), ls[i]? = some (some v) → LS[i]? = some (.val (mTr G v))
def mQc (G : mG) (Q : Option mV → mH → Prop) : Array Value → State → Outcome → State → Prop := fun _ st oc t => (∃ (r : Option mV) (h' : mH), oc = .returned (r.map (mTr G)) ∧ Q r h' ∧ mRel G h' t.heap) ∧ va_F (mA G) st t
def mRk (k : mM) (pc : Nat) (r : Option mV) : Prop := match r with
  | none => decode k.2.1 pc = .ok (.return_, 1) ∧ k.2.2.2 = none
  | some (.inl x) => decode k.2.1 pc = .ok (.ireturn, 1) ∧ ∃ ty, k.2.2.2 = some ty ∧ narrow ty (.int x) = .int x
  | some (.inr _) => decode k.2.1 pc = .ok (.areturn, 1) ∧ ∃ ty, k.2.2.2 = some ty ∧ ((∃ n, ty = .object n) ∨ ∃ t, ty = .array t)
def mRet (G : mG) (k : mM) (Q : Option mV → mH → Prop) (p : Program) (e : Env) (R : Room) (s : State) (m : MethodId) (args : Array Value) (below : List Frame) (meth : Method) (c : Code) (Z : State → Prop) : Prop :=
  ∀ (pc : Nat) (LS : Array Slot) (H : Heap) (locs : List Loc) (cells slots : Nat) (r : Option mV) (h' : mH), mRk k pc r → Q r h' → mRel G h' H → va_S (mA G) s.heap H locs → cells ≤ R.cells → slots ≤ R.slots →
    W p (gL G) e R s m args below meth c H locs cells slots Z (F0 m pc LS (r.map (mTr G)).toList)
def mAt (G : mG) (k : mM) (d : Nat) (b : Nat × Nat) (s : State) (H : Heap) (locs : List Loc) (cells slots : Nat) (LS : Array Slot) (R : Room) (ls : List (Option mV)) (h : mH) : Prop :=
  (d ≤ R.frames ∧ 64 * d ≤ R.locals ∧ cells + b.1 ≤ R.cells ∧ slots + b.2 ≤ R.slots) ∧ mRel G h H ∧ va_S (mA G) s.heap H locs ∧ mLoc G LS k.2.2.1 ls
def mW (G : mG) (k : mM) (d : Nat) (b : Nat × Nat) (pc : Nat) (ls : List (Option mV)) (st : List mV) (h : mH) (Q : Option mV → mH → Prop) : Prop :=
  ∀ (p : Program) (e : Env) (s : State) (m : MethodId) (args : Array Value) (below : List Frame) (meth : Method) (c : Code) (R : Room) (Z : State → Prop), mCx G k p s m args meth c → mRet G k Q p e R s m args below meth c Z →
  ∀ (H : Heap) (locs : List Loc) (cells slots : Nat) (LS : Array Slot), mAt G k d b s H locs cells slots LS R ls h → W p (gL G) e R s m args below meth c H locs cells slots Z (F0 m pc LS (st.map (mTr G)))
def mRm (d : Nat) (b : Nat × Nat) : Room := { frames := d, cells := b.1, slots := b.2, locals := 64 * d }
def mWd (k : mM) : List Cond := Cond.code k.1 k.2.1 k.2.2.1 k.2.2.2 :: mTs
def mPc (G : mG) (av : List mV) (h : mH) : Array Value → State → Prop := va_Pc (av.map (mTr G)) (fun U => mRel G h U.heap ∧ mK G U)
/-- a call -/
def mC (G : mG) (k : mM) (d : Nat) (b : Nat × Nat) (av : List mV) (h : mH) (Q : Option mV → mH → Prop) : Prop := Met (gL G) k.1 (mWd k) (mRm d b) (mPc G av h) (mQc G Q) b.1 b.2 (mA G)
def mEnt (n : Nat) (av : List mV) : List (Option mV) := av.map some ++ List.replicate (n - av.length) none
theorem m_sl (G : mG) (av : List mV) : lg_sl (av.map (mTr G)) = av.map (fun v => Slot.val (mTr G v)) := by
  induction av with
  | nil => rfl
  | cons v t ih =>
    show (if (mTr G v).category = 2 then _ else _) ++ lg_sl (t.map (mTr G)) = _
    rw [if_neg (by rw [mTr_cat]; decide), ih]
    rfl
theorem m_args (G : mG) (av : List mV) : ∀ (i j : Nat) (v : mV), av[j]? = some v → (i + j, mTr G v) ∈ lv_args i (av.map (mTr G)) := by
  induction av with
  | nil => intro i j v h; simp at h
  | cons w t ih =>
    intro i j v h
    show _ ∈ (i, mTr G w) :: lv_args (if (mTr G w).category = 2 then i + 2 else i + 1) (t.map (mTr G))
    rw [if_neg (by rw [mTr_cat]; decide)]
    cases j with
    | zero => simp at h; subst h; exact List.mem_cons_self
    | succ j =>
      have := ih (i + 1) j v (by simpa using h)
      rw [show i + (j + 1) = i + 1 + j by omega]
      exact List.mem_cons_of_mem _ this
theorem m_entry {G : mG} {av : List mV} {n : Nat} (hn : av.length ≤ n) : mLoc G ((lg_sl (av.map (mTr G)) ++ List.replicate (n - (lg_sl (av.map (mTr G))).length) Slot.unset).toArray) n (mEnt n av) := by
  obtain ⟨h1, h2, h3⟩ := lv_entry (av.map (mTr G)) (n := n) (by rw [m_sl]; simpa using hn)
  refine ⟨h1, h2, fun i v hv => ?_⟩
  have hv2 : av[i]? = some v := by
    unfold mEnt at hv
    by_cases hi : i < av.length
    · rw [List.getElem?_append_left (by simpa using hi)] at hv
      rw [List.getElem?_map] at hv
      cases hq : av[i]? with
      | none => rw [hq] at hv; cases hv
      | some w => rw [hq] at hv; simpa using hv
    · rw [List.getElem?_append_right (by simp; omega)] at hv
      rw [List.getElem?_replicate] at hv
      split at hv <;> simp at hv
  have := h3 _ (m_args G av 0 i v hv2)
  simpa using this
theorem mRet_std {G : mG} {k : mM} {Q : Option mV → mH → Prop} {p : Program} {e : Env} {R : Room} {s : State} {m : MethodId} {args : Array Value} {below : List Frame} {meth : Method} {c : Code} (C : mCx G k p s m args meth c) : mRet G k Q p e R s m args below meth c (MQ below (mQc G Q) args s R.cells R.slots (mA G)) := by
  obtain ⟨hx, hb, hr, hml, hown, hts, hlk, hnm, hK⟩ := C
  intro pc LS H locs cells slots r h' hk hq hR hS h1 h2
  refine W.widen h1 h2 ?_
  match r, hk, hq with
  | none, hk, hq =>
    exact W.vret hx hb (hr.trans hk.2) (fun t ht _ => ⟨⟨none, h', rfl, hq, by rw [ht]; exact hR⟩, hS.F ht⟩) hS.2.2 hk.1 hlk
  | some (.inl x), hk, hq =>
    obtain ⟨hd, ty, h3, h4⟩ := hk
    exact W.zret hx hb (hr.trans h3) h4 (fun t ht _ => ⟨⟨some (.inl x), h', rfl, hq, by rw [ht]; exact hR⟩, hS.F ht⟩) hS.2.2 hd hlk
  | some (.inr y), hk, hq =>
    obtain ⟨hd, ty, h3, h4⟩ := hk
    exact W.aret hx hb (hr.trans h3) h4 (va_rf_or _) (fun t ht _ => ⟨⟨some (.inr y), h', rfl, hq, by rw [ht]; exact hR⟩, hS.F ht⟩) hS.2.2 hd hlk
theorem mC_in {G : mG} {k : mM} {d : Nat} {b : Nat × Nat} {av : List mV} {h : mH} {Q : Option mV → mH → Prop} (hy : plainName k.1.cls = true) (hn : av.length ≤ k.2.2.1) (w : mW G k d b 0 (mEnt k.2.2.1 av) [] h Q) : mC G k d b av h Q := by
  refine Met.ofW (cc := k.2.1) (maxL := k.2.2.1) (ret := k.2.2.2) hy rfl ?_
  intro p e s m args below meth c s₁ B hml hv
  obtain ⟨rfl, hR, hK⟩ := hv
  have hts := atoms_spec (ws := mWd k) B.pre
  have C : mCx G k p s m (av.map (mTr G)).toArray meth c := ⟨B.exec, B.bytes, B.returns, hml, findClass_of_methodNamed B.named, fun w hw => hts w (List.mem_cons_of_mem _ hw), B.notSynchronized, fun z => ((name_of_methodNamed B.named B.method).1).trans z, hK⟩
  rw [lg_entry_eq]
  exact w p e s m _ below meth c (mRm d b) _ C (mRet_std C) s.heap [] 0 0 _ ⟨⟨Nat.le_refl _, Nat.le_refl _, by show 0 + b.1 ≤ b.1; omega, by show 0 + b.2 ≤ b.2; omega⟩, hR, va_S.rf, m_entry hn⟩

section
variable {G : mG} {k : mM} {d : Nat} {b : Nat × Nat} {pc pc' : Nat} {ls : List (Option mV)} {st : List mV} {h : mH} {Q : Option mV → mH → Prop}
theorem mw_iconst {n : Int} {v : Int32} (hd : decode k.2.1 pc = .ok (.iconst n, 1)) (hp : pc + 1 = pc') (hv : Int32.ofInt n = v) (kk : mW G k d b pc' ls (.inl v :: st) h Q) : mW G k d b pc ls (st) h Q := by
  subst hp
  intro p e s m args below meth c R Z C hQ H locs cells slots LS hA
  obtain ⟨hx, hb, hr, hml, hown, hts, hlk, hnm, hK⟩ := id C
  obtain ⟨⟨hf1, hf2, hf3, hf4⟩, hR, hS, hLs⟩ := id hA
  refine lv_iconst hx hb hd hv ?_
  exact kk p e s m args below meth c R Z C hQ _ _ _ _ _ hA
theorem mw_bipush {n : Int} {v : Int32} (hd : decode k.2.1 pc = .ok (.bipush n, 2)) (hp : pc + 2 = pc') (hv : (Int8.ofInt n).toInt32 = v) (kk : mW G k d b pc' ls (.inl v :: st) h Q) : mW G k d b pc ls (st) h Q := by
  subst hp
  intro p e s m args below meth c R Z C hQ H locs cells slots LS hA
  obtain ⟨hx, hb, hr, hml, hown, hts, hlk, hnm, hK⟩ := id C
  obtain ⟨⟨hf1, hf2, hf3, hf4⟩, hR, hS, hLs⟩ := id hA
  refine lv_bipush hx hb hd hv ?_
  exact kk p e s m args below meth c R Z C hQ _ _ _ _ _ hA
theorem mw_sipush {n : Int} {v : Int32} (hd : decode k.2.1 pc = .ok (.sipush n, 3)) (hp : pc + 3 = pc') (hv : (Int16.ofInt n).toInt32 = v) (kk : mW G k d b pc' ls (.inl v :: st) h Q) : mW G k d b pc ls (st) h Q := by
  subst hp
  intro p e s m args below meth c R Z C hQ H locs cells slots LS hA
  obtain ⟨hx, hb, hr, hml, hown, hts, hlk, hnm, hK⟩ := id C
  obtain ⟨⟨hf1, hf2, hf3, hf4⟩, hR, hS, hLs⟩ := id hA
  refine lv_sipush hx hb hd hv ?_
  exact kk p e s m args below meth c R Z C hQ _ _ _ _ _ hA
theorem mw_ldc {n : Nat} {v : Int32} (hd : decode k.2.1 pc = .ok (.ldc n, 2)) (hp : pc + 2 = pc') (hc : Cond.constant k.1.cls n v ∈ mTs) (kk : mW G k d b pc' ls (.inl v :: st) h Q) : mW G k d b pc ls (st) h Q := by
  subst hp
  intro p e s m args below meth c R Z C hQ H locs cells slots LS hA
  obtain ⟨hx, hb, hr, hml, hown, hts, hlk, hnm, hK⟩ := id C
  obtain ⟨⟨hf1, hf2, hf3, hf4⟩, hR, hS, hLs⟩ := id hA
  refine lv_ldc hx hb hown (hts _ hc) hd ?_
  exact kk p e s m args below meth c R Z C hQ _ _ _ _ _ hA
theorem mw_ldcw {n : Nat} {v : Int32} (hd : decode k.2.1 pc = .ok (.ldc_w n, 3)) (hp : pc + 3 = pc') (hc : Cond.constant k.1.cls n v ∈ mTs) (kk : mW G k d b pc' ls (.inl v :: st) h Q) : mW G k d b pc ls (st) h Q := by
  subst hp
  intro p e s m args below meth c R Z C hQ H locs cells slots LS hA
  obtain ⟨hx, hb, hr, hml, hown, hts, hlk, hnm, hK⟩ := id C
  obtain ⟨⟨hf1, hf2, hf3, hf4⟩, hR, hS, hLs⟩ := id hA
  refine lv_ldcw hx hb hown (hts _ hc) hd ?_
  exact kk p e s m args below meth c R Z C hQ _ _ _ _ _ hA
theorem mw_null  (hd : decode k.2.1 pc = .ok (.aconst_null, 1)) (hp : pc + 1 = pc')  (kk : mW G k d b pc' ls (.inr none :: st) h Q) : mW G k d b pc ls (st) h Q := by
  subst hp
  intro p e s m args below meth c R Z C hQ H locs cells slots LS hA
  obtain ⟨hx, hb, hr, hml, hown, hts, hlk, hnm, hK⟩ := id C
  obtain ⟨⟨hf1, hf2, hf3, hf4⟩, hR, hS, hLs⟩ := id hA
  refine lv_null hx hb hd ?_
  exact kk p e s m args below meth c R Z C hQ _ _ _ _ _ hA
theorem mw_iload_n {q : Fin 4} {x : Int32} (hd : decode k.2.1 pc = .ok (.iload_n q, 1)) (hp : pc + 1 = pc') (hl : ls[q.val]? = some (some (.inl x))) (kk : mW G k d b pc' ls (.inl x :: st) h Q) : mW G k d b pc ls (st) h Q := by
  subst hp
  intro p e s m args below meth c R Z C hQ H locs cells slots LS hA
  obtain ⟨hx, hb, hr, hml, hown, hts, hlk, hnm, hK⟩ := id C
  obtain ⟨⟨hf1, hf2, hf3, hf4⟩, hR, hS, hLs⟩ := id hA
  refine lv_iload_n hx hb hd rfl (hLs.2.2 _ _ hl) ?_
  exact kk p e s m args below meth c R Z C hQ _ _ _ _ _ hA
theorem mw_iload {i : Nat} {x : Int32} (hd : decode k.2.1 pc = .ok (.iload i, 2)) (hp : pc + 2 = pc') (hl : ls[i]? = some (some (.inl x))) (kk : mW G k d b pc' ls (.inl x :: st) h Q) : mW G k d b pc ls (st) h Q := by
  subst hp
  intro p e s m args below meth c R Z C hQ H locs cells slots LS hA
  obtain ⟨hx, hb, hr, hml, hown, hts, hlk, hnm, hK⟩ := id C
  obtain ⟨⟨hf1, hf2, hf3, hf4⟩, hR, hS, hLs⟩ := id hA
  refine lv_iload hx hb hd (hLs.2.2 _ _ hl) ?_
  exact kk p e s m args below meth c R Z C hQ _ _ _ _ _ hA
theorem mw_aload_n {q : Fin 4} {r : Option Nat} (hd : decode k.2.1 pc = .ok (.aload_n q, 1)) (hp : pc + 1 = pc') (hl : ls[q.val]? = some (some (.inr r))) (kk : mW G k d b pc' ls (.inr r :: st) h Q) : mW G k d b pc ls st h Q := by
  subst hp
  intro p e s m args below meth c R Z C hQ H locs cells slots LS hA
  obtain ⟨hx, hb, hr, hml, hown, hts, hlk, hnm, hK⟩ := id C
  obtain ⟨⟨hf1, hf2, hf3, hf4⟩, hR, hS, hLs⟩ := id hA
  cases r with
  | none =>
    refine lv_aload_nN hx hb hd rfl (hLs.2.2 _ _ hl) ?_
    exact kk p e s m args below meth c R Z C hQ _ _ _ _ _ hA
  | some y =>
    refine lv_aload_n hx hb hd rfl (hLs.2.2 _ _ hl) ?_
    exact kk p e s m args below meth c R Z C hQ _ _ _ _ _ hA
theorem mw_aload {i : Nat} {r : Option Nat} (hd : decode k.2.1 pc = .ok (.aload i, 2)) (hp : pc + 2 = pc') (hl : ls[i]? = some (some (.inr r))) (kk : mW G k d b pc' ls (.inr r :: st) h Q) : mW G k d b pc ls st h Q := by
  subst hp
  intro p e s m args below meth c R Z C hQ H locs cells slots LS hA
  obtain ⟨hx, hb, hr, hml, hown, hts, hlk, hnm, hK⟩ := id C
  obtain ⟨⟨hf1, hf2, hf3, hf4⟩, hR, hS, hLs⟩ := id hA
  cases r with
  | none =>
    refine lv_aloadN hx hb hd (hLs.2.2 _ _ hl) ?_
    exact kk p e s m args below meth c R Z C hQ _ _ _ _ _ hA
  | some y =>
    refine lv_aload hx hb hd (hLs.2.2 _ _ hl) ?_
    exact kk p e s m args below meth c R Z C hQ _ _ _ _ _ hA
theorem mLoc.has {G : mG} {LS : Array Slot} {n : Nat} {ls : List (Option mV)} (hL : mLoc G LS n ls) : lv_has LS n ((List.range ls.length).filterMap (fun i => (ls[i]?.join).map (fun v => (i, mTr G v)))) := by
  refine ⟨hL.1, hL.2.1, fun q hq => ?_⟩
  obtain ⟨i, -, hi⟩ := List.mem_filterMap.mp hq
  cases h1 : ls[i]? with
  | none => rw [h1] at hi; cases hi
  | some o =>
    rw [h1] at hi
    cases o with
    | none => cases hi
    | some v => cases hi; exact hL.2.2 i v h1
theorem mLoc.store {G : mG} {LS' : Array Slot} {n i : Nat} {ls : List (Option mV)} {v : mV} (h : lv_has LS' n ((i, mTr G v) :: ((List.range ls.length).filterMap (fun i => (ls[i]?.join).map (fun v => (i, mTr G v)))).filter (fun q => !(q.1 == i) && !(q.1 + 1 == i && q.2.category == 2)))) : mLoc G LS' n (ls.set i (some v)) := by
  refine ⟨h.1, h.2.1, fun j w hw => ?_⟩
  by_cases hj : i = j
  · subst hj
    by_cases hl : i < ls.length
    · rw [List.getElem?_set_self hl] at hw
      cases hw
      exact h.2.2 _ List.mem_cons_self
    · rw [List.getElem?_eq_none (by simp; omega)] at hw
      cases hw
  · rw [List.getElem?_set_ne hj] at hw
    refine h.2.2 (j, mTr G w) (List.mem_cons_of_mem _ (List.mem_filter.mpr ⟨List.mem_filterMap.mpr ⟨j, List.mem_range.mpr (List.getElem?_eq_some_iff.mp hw).1, by rw [hw]; rfl⟩, ?_⟩))
    have hc := mTr_cat G w
    simp [hc, Ne.symm hj]
theorem mw_istore_n {q : Fin 4} {x : Int32} (hd : decode k.2.1 pc = .ok (.istore_n q, 1)) (hp : pc + 1 = pc') (hi : q.val < k.2.2.1) (kk : mW G k d b pc' (ls.set q.val (some (.inl x))) st h Q) : mW G k d b pc ls (.inl x :: st) h Q := by
  subst hp
  intro p e s m args below meth c R Z C hQ H locs cells slots LS hA
  obtain ⟨hx, hb, hr, hml, hown, hts, hlk, hnm, hK⟩ := id C
  obtain ⟨⟨hf1, hf2, hf3, hf4⟩, hR, hS, hLs⟩ := id hA
  exact lv_istore_n hx hb hd rfl hLs.has hi rfl (fun LS2 hl2 => kk p e s m args below meth c R Z C hQ _ _ _ _ _ ⟨hA.1, hR, hS, mLoc.store hl2⟩)
theorem mw_istore {i : Nat} {x : Int32} (hd : decode k.2.1 pc = .ok (.istore i, 2)) (hp : pc + 2 = pc') (hi : i < k.2.2.1) (kk : mW G k d b pc' (ls.set i (some (.inl x))) st h Q) : mW G k d b pc ls (.inl x :: st) h Q := by
  subst hp
  intro p e s m args below meth c R Z C hQ H locs cells slots LS hA
  obtain ⟨hx, hb, hr, hml, hown, hts, hlk, hnm, hK⟩ := id C
  obtain ⟨⟨hf1, hf2, hf3, hf4⟩, hR, hS, hLs⟩ := id hA
  exact lv_istore hx hb hd hLs.has hi rfl (fun LS2 hl2 => kk p e s m args below meth c R Z C hQ _ _ _ _ _ ⟨hA.1, hR, hS, mLoc.store hl2⟩)
theorem mw_astore_n {q : Fin 4} {r : Option Nat} (hd : decode k.2.1 pc = .ok (.astore_n q, 1)) (hp : pc + 1 = pc') (hi : q.val < k.2.2.1) (kk : mW G k d b pc' (ls.set q.val (some (.inr r))) st h Q) : mW G k d b pc ls (.inr r :: st) h Q := by
  subst hp
  intro p e s m args below meth c R Z C hQ H locs cells slots LS hA
  obtain ⟨hx, hb, hr, hml, hown, hts, hlk, hnm, hK⟩ := id C
  obtain ⟨⟨hf1, hf2, hf3, hf4⟩, hR, hS, hLs⟩ := id hA
  cases r with
  | none => exact lv_astore_nN hx hb hd rfl hLs.has hi rfl (fun LS2 hl2 => kk p e s m args below meth c R Z C hQ _ _ _ _ _ ⟨hA.1, hR, hS, mLoc.store (v := .inr none) hl2⟩)
  | some y => exact lv_astore_n hx hb hd rfl hLs.has hi rfl (fun LS2 hl2 => kk p e s m args below meth c R Z C hQ _ _ _ _ _ ⟨hA.1, hR, hS, mLoc.store (v := .inr (some y)) hl2⟩)
theorem mw_astore {i : Nat} {r : Option Nat} (hd : decode k.2.1 pc = .ok (.astore i, 2)) (hp : pc + 2 = pc') (hi : i < k.2.2.1) (kk : mW G k d b pc' (ls.set i (some (.inr r))) st h Q) : mW G k d b pc ls (.inr r :: st) h Q := by
  subst hp
  intro p e s m args below meth c R Z C hQ H locs cells slots LS hA
  obtain ⟨hx, hb, hr, hml, hown, hts, hlk, hnm, hK⟩ := id C
  obtain ⟨⟨hf1, hf2, hf3, hf4⟩, hR, hS, hLs⟩ := id hA
  cases r with
  | none => exact lv_astoreN hx hb hd hLs.has hi rfl (fun LS2 hl2 => kk p e s m args below meth c R Z C hQ _ _ _ _ _ ⟨hA.1, hR, hS, mLoc.store (v := .inr none) hl2⟩)
  | some y => exact lv_astore hx hb hd hLs.has hi rfl (fun LS2 hl2 => kk p e s m args below meth c R Z C hQ _ _ _ _ _ ⟨hA.1, hR, hS, mLoc.store (v := .inr (some y)) hl2⟩)
theorem m_iincat {G : mG} {ls : List (Option mV)} {i : Nat} {x : Int32} (hl : ls[i]? = some (some (.inl x))) : ∃ j : Nat, ((List.range ls.length).filterMap (fun i => (ls[i]?.join).map (fun v => (i, mTr G v))))[j]? = some (i, .int x) := by
  have h : (i, Value.int x) ∈ (List.range ls.length).filterMap (fun i => (ls[i]?.join).map (fun v => (i, mTr G v))) := List.mem_filterMap.mpr ⟨i, List.mem_range.mpr (List.getElem?_eq_some_iff.mp hl).1, by rw [hl]; rfl⟩
  exact List.getElem?_of_mem h
theorem mw_iinc {i : Nat} {n : Int} {x v : Int32} (hd : decode k.2.1 pc = .ok (.iinc i n, 3)) (hp : pc + 3 = pc') (hi : i < k.2.2.1) (hl : ls[i]? = some (some (.inl x))) (hv : x + Int32.ofInt n = v) (kk : mW G k d b pc' (ls.set i (some (.inl v))) st h Q) : mW G k d b pc ls st h Q := by
  subst hp
  intro p e s m args below meth c R Z C hQ H locs cells slots LS hA
  obtain ⟨hx, hb, hr, hml, hown, hts, hlk, hnm, hK⟩ := id C
  obtain ⟨⟨hf1, hf2, hf3, hf4⟩, hR, hS, hLs⟩ := id hA
  obtain ⟨j, hj⟩ := m_iincat (G := G) hl
  exact lv_iinc (k := j) hx hb hd hLs.has hj hv hi rfl (fun LS2 hl2 => kk p e s m args below meth c R Z C hQ _ _ _ _ _ ⟨hA.1, hR, hS, mLoc.store (v := .inl v) hl2⟩)
theorem mw_iadd {x y : Int32} (hd : decode k.2.1 pc = .ok (.iadd, 1)) (hp : pc + 1 = pc')  (kk : mW G k d b pc' ls (.inl (x + y) :: st) h Q) : mW G k d b pc ls (.inl y :: .inl x :: st) h Q := by
  subst hp
  intro p e s m args below meth c R Z C hQ H locs cells slots LS hA
  obtain ⟨hx, hb, hr, hml, hown, hts, hlk, hnm, hK⟩ := id C
  obtain ⟨⟨hf1, hf2, hf3, hf4⟩, hR, hS, hLs⟩ := id hA
  refine lv_iadd hx hb hd ?_
  exact kk p e s m args below meth c R Z C hQ _ _ _ _ _ hA
theorem mw_isub {x y : Int32} (hd : decode k.2.1 pc = .ok (.isub, 1)) (hp : pc + 1 = pc')  (kk : mW G k d b pc' ls (.inl (x - y) :: st) h Q) : mW G k d b pc ls (.inl y :: .inl x :: st) h Q := by
  subst hp
  intro p e s m args below meth c R Z C hQ H locs cells slots LS hA
  obtain ⟨hx, hb, hr, hml, hown, hts, hlk, hnm, hK⟩ := id C
  obtain ⟨⟨hf1, hf2, hf3, hf4⟩, hR, hS, hLs⟩ := id hA
  refine lv_isub hx hb hd ?_
  exact kk p e s m args below meth c R Z C hQ _ _ _ _ _ hA
theorem mw_imul {x y : Int32} (hd : decode k.2.1 pc = .ok (.imul, 1)) (hp : pc + 1 = pc')  (kk : mW G k d b pc' ls (.inl (x * y) :: st) h Q) : mW G k d b pc ls (.inl y :: .inl x :: st) h Q := by
  subst hp
  intro p e s m args below meth c R Z C hQ H locs cells slots LS hA
  obtain ⟨hx, hb, hr, hml, hown, hts, hlk, hnm, hK⟩ := id C
  obtain ⟨⟨hf1, hf2, hf3, hf4⟩, hR, hS, hLs⟩ := id hA
  refine lv_imul hx hb hd ?_
  exact kk p e s m args below meth c R Z C hQ _ _ _ _ _ hA
theorem mw_iand {x y : Int32} (hd : decode k.2.1 pc = .ok (.iand, 1)) (hp : pc + 1 = pc')  (kk : mW G k d b pc' ls (.inl (x &&& y) :: st) h Q) : mW G k d b pc ls (.inl y :: .inl x :: st) h Q := by
  subst hp
  intro p e s m args below meth c R Z C hQ H locs cells slots LS hA
  obtain ⟨hx, hb, hr, hml, hown, hts, hlk, hnm, hK⟩ := id C
  obtain ⟨⟨hf1, hf2, hf3, hf4⟩, hR, hS, hLs⟩ := id hA
  refine lv_iand hx hb hd ?_
  exact kk p e s m args below meth c R Z C hQ _ _ _ _ _ hA
theorem mw_ior {x y : Int32} (hd : decode k.2.1 pc = .ok (.ior, 1)) (hp : pc + 1 = pc')  (kk : mW G k d b pc' ls (.inl (x ||| y) :: st) h Q) : mW G k d b pc ls (.inl y :: .inl x :: st) h Q := by
  subst hp
  intro p e s m args below meth c R Z C hQ H locs cells slots LS hA
  obtain ⟨hx, hb, hr, hml, hown, hts, hlk, hnm, hK⟩ := id C
  obtain ⟨⟨hf1, hf2, hf3, hf4⟩, hR, hS, hLs⟩ := id hA
  refine lv_ior hx hb hd ?_
  exact kk p e s m args below meth c R Z C hQ _ _ _ _ _ hA
theorem mw_ixor {x y : Int32} (hd : decode k.2.1 pc = .ok (.ixor, 1)) (hp : pc + 1 = pc')  (kk : mW G k d b pc' ls (.inl (x ^^^ y) :: st) h Q) : mW G k d b pc ls (.inl y :: .inl x :: st) h Q := by
  subst hp
  intro p e s m args below meth c R Z C hQ H locs cells slots LS hA
  obtain ⟨hx, hb, hr, hml, hown, hts, hlk, hnm, hK⟩ := id C
  obtain ⟨⟨hf1, hf2, hf3, hf4⟩, hR, hS, hLs⟩ := id hA
  refine lv_ixor hx hb hd ?_
  exact kk p e s m args below meth c R Z C hQ _ _ _ _ _ hA
theorem mw_ishl {x y : Int32} (hd : decode k.2.1 pc = .ok (.ishl, 1)) (hp : pc + 1 = pc')  (kk : mW G k d b pc' ls (.inl (x <<< (y &&& 31)) :: st) h Q) : mW G k d b pc ls (.inl y :: .inl x :: st) h Q := by
  subst hp
  intro p e s m args below meth c R Z C hQ H locs cells slots LS hA
  obtain ⟨hx, hb, hr, hml, hown, hts, hlk, hnm, hK⟩ := id C
  obtain ⟨⟨hf1, hf2, hf3, hf4⟩, hR, hS, hLs⟩ := id hA
  refine lv_ishl hx hb hd ?_
  exact kk p e s m args below meth c R Z C hQ _ _ _ _ _ hA
theorem mw_ishr {x y : Int32} (hd : decode k.2.1 pc = .ok (.ishr, 1)) (hp : pc + 1 = pc')  (kk : mW G k d b pc' ls (.inl (x >>> (y &&& 31)) :: st) h Q) : mW G k d b pc ls (.inl y :: .inl x :: st) h Q := by
  subst hp
  intro p e s m args below meth c R Z C hQ H locs cells slots LS hA
  obtain ⟨hx, hb, hr, hml, hown, hts, hlk, hnm, hK⟩ := id C
  obtain ⟨⟨hf1, hf2, hf3, hf4⟩, hR, hS, hLs⟩ := id hA
  refine lv_ishr hx hb hd ?_
  exact kk p e s m args below meth c R Z C hQ _ _ _ _ _ hA
theorem mw_iushr {x y : Int32} (hd : decode k.2.1 pc = .ok (.iushr, 1)) (hp : pc + 1 = pc')  (kk : mW G k d b pc' ls (.inl ((x.toUInt32 >>> (y.toUInt32 &&& Int32.toUInt32 31)).toInt32) :: st) h Q) : mW G k d b pc ls (.inl y :: .inl x :: st) h Q := by
  subst hp
  intro p e s m args below meth c R Z C hQ H locs cells slots LS hA
  obtain ⟨hx, hb, hr, hml, hown, hts, hlk, hnm, hK⟩ := id C
  obtain ⟨⟨hf1, hf2, hf3, hf4⟩, hR, hS, hLs⟩ := id hA
  refine lv_iushr hx hb hd rfl ?_
  exact kk p e s m args below meth c R Z C hQ _ _ _ _ _ hA
theorem mw_idiv {x y : Int32} (hd : decode k.2.1 pc = .ok (.idiv, 1)) (hp : pc + 1 = pc') (hn : ¬ y = 0) (kk : mW G k d b pc' ls (.inl (x / y) :: st) h Q) : mW G k d b pc ls (.inl y :: .inl x :: st) h Q := by
  subst hp
  intro p e s m args below meth c R Z C hQ H locs cells slots LS hA
  obtain ⟨hx, hb, hr, hml, hown, hts, hlk, hnm, hK⟩ := id C
  obtain ⟨⟨hf1, hf2, hf3, hf4⟩, hR, hS, hLs⟩ := id hA
  refine lv_idiv hx hb hd hn ?_
  exact kk p e s m args below meth c R Z C hQ _ _ _ _ _ hA
theorem mw_irem {x y : Int32} (hd : decode k.2.1 pc = .ok (.irem, 1)) (hp : pc + 1 = pc') (hn : ¬ y = 0) (kk : mW G k d b pc' ls (.inl (x - x / y * y) :: st) h Q) : mW G k d b pc ls (.inl y :: .inl x :: st) h Q := by
  subst hp
  intro p e s m args below meth c R Z C hQ H locs cells slots LS hA
  obtain ⟨hx, hb, hr, hml, hown, hts, hlk, hnm, hK⟩ := id C
  obtain ⟨⟨hf1, hf2, hf3, hf4⟩, hR, hS, hLs⟩ := id hA
  refine lv_irem hx hb hd hn ?_
  exact kk p e s m args below meth c R Z C hQ _ _ _ _ _ hA
theorem mw_ineg {x : Int32} (hd : decode k.2.1 pc = .ok (.ineg, 1)) (hp : pc + 1 = pc')  (kk : mW G k d b pc' ls (.inl (-x) :: st) h Q) : mW G k d b pc ls (.inl x :: st) h Q := by
  subst hp
  intro p e s m args below meth c R Z C hQ H locs cells slots LS hA
  obtain ⟨hx, hb, hr, hml, hown, hts, hlk, hnm, hK⟩ := id C
  obtain ⟨⟨hf1, hf2, hf3, hf4⟩, hR, hS, hLs⟩ := id hA
  refine lv_ineg hx hb hd ?_
  exact kk p e s m args below meth c R Z C hQ _ _ _ _ _ hA
theorem mw_i2c {x : Int32} (hd : decode k.2.1 pc = .ok (.i2c, 1)) (hp : pc + 1 = pc')  (kk : mW G k d b pc' ls (.inl ((x.toUInt32 % 65536).toInt32) :: st) h Q) : mW G k d b pc ls (.inl x :: st) h Q := by
  subst hp
  intro p e s m args below meth c R Z C hQ H locs cells slots LS hA
  obtain ⟨hx, hb, hr, hml, hown, hts, hlk, hnm, hK⟩ := id C
  obtain ⟨⟨hf1, hf2, hf3, hf4⟩, hR, hS, hLs⟩ := id hA
  refine lv_i2c hx hb hd rfl ?_
  exact kk p e s m args below meth c R Z C hQ _ _ _ _ _ hA
theorem mw_i2b {x : Int32} (hd : decode k.2.1 pc = .ok (.i2b, 1)) (hp : pc + 1 = pc')  (kk : mW G k d b pc' ls (.inl (x.toInt8.toInt32) :: st) h Q) : mW G k d b pc ls (.inl x :: st) h Q := by
  subst hp
  intro p e s m args below meth c R Z C hQ H locs cells slots LS hA
  obtain ⟨hx, hb, hr, hml, hown, hts, hlk, hnm, hK⟩ := id C
  obtain ⟨⟨hf1, hf2, hf3, hf4⟩, hR, hS, hLs⟩ := id hA
  refine lv_i2b hx hb hd rfl ?_
  exact kk p e s m args below meth c R Z C hQ _ _ _ _ _ hA
theorem mw_dup {v : mV} (hd : decode k.2.1 pc = .ok (.dup, 1)) (hp : pc + 1 = pc')  (kk : mW G k d b pc' ls (v :: v :: st) h Q) : mW G k d b pc ls (v :: st) h Q := by
  subst hp
  intro p e s m args below meth c R Z C hQ H locs cells slots LS hA
  obtain ⟨hx, hb, hr, hml, hown, hts, hlk, hnm, hK⟩ := id C
  obtain ⟨⟨hf1, hf2, hf3, hf4⟩, hR, hS, hLs⟩ := id hA
  refine lv_dup hx hb hd (mTr_cat G v) ?_
  exact kk p e s m args below meth c R Z C hQ _ _ _ _ _ hA
theorem mw_pop {v : mV} (hd : decode k.2.1 pc = .ok (.pop, 1)) (hp : pc + 1 = pc')  (kk : mW G k d b pc' ls (st) h Q) : mW G k d b pc ls (v :: st) h Q := by
  subst hp
  intro p e s m args below meth c R Z C hQ H locs cells slots LS hA
  obtain ⟨hx, hb, hr, hml, hown, hts, hlk, hnm, hK⟩ := id C
  obtain ⟨⟨hf1, hf2, hf3, hf4⟩, hR, hS, hLs⟩ := id hA
  refine lv_pop hx hb hd (mTr_cat G v) ?_
  exact kk p e s m args below meth c R Z C hQ _ _ _ _ _ hA
theorem mw_dup2 {v w : mV} (hd : decode k.2.1 pc = .ok (.dup2, 1)) (hp : pc + 1 = pc')  (kk : mW G k d b pc' ls (v :: w :: v :: w :: st) h Q) : mW G k d b pc ls (v :: w :: st) h Q := by
  subst hp
  intro p e s m args below meth c R Z C hQ H locs cells slots LS hA
  obtain ⟨hx, hb, hr, hml, hown, hts, hlk, hnm, hK⟩ := id C
  obtain ⟨⟨hf1, hf2, hf3, hf4⟩, hR, hS, hLs⟩ := id hA
  refine lv_dup2_11 hx hb hd (mTr_cat G v) (mTr_cat G w) ?_
  exact kk p e s m args below meth c R Z C hQ _ _ _ _ _ hA
theorem mw_icmp_eq {x y : Int32} {off : Int} {tgt : Nat} (hd : decode k.2.1 pc = .ok (.if_icmp .eq off, 3)) (hp : pc + 3 = pc') (ht : (pc : Int) + off = (tgt : Int)) (kt : x = y → mW G k d b tgt ls st h Q) (kf : ¬ (x = y) → mW G k d b pc' ls st h Q) : mW G k d b pc ls (.inl y :: .inl x :: st) h Q := by
  subst hp
  intro p e s m args below meth c R Z C hQ H locs cells slots LS hA
  obtain ⟨hx, hb, hr, hml, hown, hts, hlk, hnm, hK⟩ := id C
  obtain ⟨⟨hf1, hf2, hf3, hf4⟩, hR, hS, hLs⟩ := id hA
  exact lv_icmp_eq hx hb hd ht (fun z => kt z p e s m args below meth c R Z C hQ _ _ _ _ _ hA) (fun z => kf z p e s m args below meth c R Z C hQ _ _ _ _ _ hA)
theorem mw_icmp_ne {x y : Int32} {off : Int} {tgt : Nat} (hd : decode k.2.1 pc = .ok (.if_icmp .ne off, 3)) (hp : pc + 3 = pc') (ht : (pc : Int) + off = (tgt : Int)) (kt : ¬ x = y → mW G k d b tgt ls st h Q) (kf : x = y → mW G k d b pc' ls st h Q) : mW G k d b pc ls (.inl y :: .inl x :: st) h Q := by
  subst hp
  intro p e s m args below meth c R Z C hQ H locs cells slots LS hA
  obtain ⟨hx, hb, hr, hml, hown, hts, hlk, hnm, hK⟩ := id C
  obtain ⟨⟨hf1, hf2, hf3, hf4⟩, hR, hS, hLs⟩ := id hA
  exact lv_icmp_ne hx hb hd ht (fun z => kt z p e s m args below meth c R Z C hQ _ _ _ _ _ hA) (fun z => kf z p e s m args below meth c R Z C hQ _ _ _ _ _ hA)
theorem mw_icmp_lt {x y : Int32} {off : Int} {tgt : Nat} (hd : decode k.2.1 pc = .ok (.if_icmp .lt off, 3)) (hp : pc + 3 = pc') (ht : (pc : Int) + off = (tgt : Int)) (kt : x < y → mW G k d b tgt ls st h Q) (kf : ¬ (x < y) → mW G k d b pc' ls st h Q) : mW G k d b pc ls (.inl y :: .inl x :: st) h Q := by
  subst hp
  intro p e s m args below meth c R Z C hQ H locs cells slots LS hA
  obtain ⟨hx, hb, hr, hml, hown, hts, hlk, hnm, hK⟩ := id C
  obtain ⟨⟨hf1, hf2, hf3, hf4⟩, hR, hS, hLs⟩ := id hA
  exact lv_icmp_lt hx hb hd ht (fun z => kt z p e s m args below meth c R Z C hQ _ _ _ _ _ hA) (fun z => kf z p e s m args below meth c R Z C hQ _ _ _ _ _ hA)
theorem mw_icmp_ge {x y : Int32} {off : Int} {tgt : Nat} (hd : decode k.2.1 pc = .ok (.if_icmp .ge off, 3)) (hp : pc + 3 = pc') (ht : (pc : Int) + off = (tgt : Int)) (kt : y ≤ x → mW G k d b tgt ls st h Q) (kf : ¬ (y ≤ x) → mW G k d b pc' ls st h Q) : mW G k d b pc ls (.inl y :: .inl x :: st) h Q := by
  subst hp
  intro p e s m args below meth c R Z C hQ H locs cells slots LS hA
  obtain ⟨hx, hb, hr, hml, hown, hts, hlk, hnm, hK⟩ := id C
  obtain ⟨⟨hf1, hf2, hf3, hf4⟩, hR, hS, hLs⟩ := id hA
  exact lv_icmp_ge hx hb hd ht (fun z => kt z p e s m args below meth c R Z C hQ _ _ _ _ _ hA) (fun z => kf z p e s m args below meth c R Z C hQ _ _ _ _ _ hA)
theorem mw_icmp_gt {x y : Int32} {off : Int} {tgt : Nat} (hd : decode k.2.1 pc = .ok (.if_icmp .gt off, 3)) (hp : pc + 3 = pc') (ht : (pc : Int) + off = (tgt : Int)) (kt : y < x → mW G k d b tgt ls st h Q) (kf : ¬ (y < x) → mW G k d b pc' ls st h Q) : mW G k d b pc ls (.inl y :: .inl x :: st) h Q := by
  subst hp
  intro p e s m args below meth c R Z C hQ H locs cells slots LS hA
  obtain ⟨hx, hb, hr, hml, hown, hts, hlk, hnm, hK⟩ := id C
  obtain ⟨⟨hf1, hf2, hf3, hf4⟩, hR, hS, hLs⟩ := id hA
  exact lv_icmp_gt hx hb hd ht (fun z => kt z p e s m args below meth c R Z C hQ _ _ _ _ _ hA) (fun z => kf z p e s m args below meth c R Z C hQ _ _ _ _ _ hA)
theorem mw_icmp_le {x y : Int32} {off : Int} {tgt : Nat} (hd : decode k.2.1 pc = .ok (.if_icmp .le off, 3)) (hp : pc + 3 = pc') (ht : (pc : Int) + off = (tgt : Int)) (kt : x ≤ y → mW G k d b tgt ls st h Q) (kf : ¬ (x ≤ y) → mW G k d b pc' ls st h Q) : mW G k d b pc ls (.inl y :: .inl x :: st) h Q := by
  subst hp
  intro p e s m args below meth c R Z C hQ H locs cells slots LS hA
  obtain ⟨hx, hb, hr, hml, hown, hts, hlk, hnm, hK⟩ := id C
  obtain ⟨⟨hf1, hf2, hf3, hf4⟩, hR, hS, hLs⟩ := id hA
  exact lv_icmp_le hx hb hd ht (fun z => kt z p e s m args below meth c R Z C hQ _ _ _ _ _ hA) (fun z => kf z p e s m args below meth c R Z C hQ _ _ _ _ _ hA)
theorem mw_if_eq {x : Int32} {off : Int} {tgt : Nat} (hd : decode k.2.1 pc = .ok (.ifCond .eq off, 3)) (hp : pc + 3 = pc') (ht : (pc : Int) + off = (tgt : Int)) (kt : x = 0 → mW G k d b tgt ls st h Q) (kf : ¬ (x = 0) → mW G k d b pc' ls st h Q) : mW G k d b pc ls (.inl x :: st) h Q := by
  subst hp
  intro p e s m args below meth c R Z C hQ H locs cells slots LS hA
  obtain ⟨hx, hb, hr, hml, hown, hts, hlk, hnm, hK⟩ := id C
  obtain ⟨⟨hf1, hf2, hf3, hf4⟩, hR, hS, hLs⟩ := id hA
  exact lv_if_eq hx hb hd ht (fun z => kt z p e s m args below meth c R Z C hQ _ _ _ _ _ hA) (fun z => kf z p e s m args below meth c R Z C hQ _ _ _ _ _ hA)
theorem mw_if_ne {x : Int32} {off : Int} {tgt : Nat} (hd : decode k.2.1 pc = .ok (.ifCond .ne off, 3)) (hp : pc + 3 = pc') (ht : (pc : Int) + off = (tgt : Int)) (kt : ¬ x = 0 → mW G k d b tgt ls st h Q) (kf : x = 0 → mW G k d b pc' ls st h Q) : mW G k d b pc ls (.inl x :: st) h Q := by
  subst hp
  intro p e s m args below meth c R Z C hQ H locs cells slots LS hA
  obtain ⟨hx, hb, hr, hml, hown, hts, hlk, hnm, hK⟩ := id C
  obtain ⟨⟨hf1, hf2, hf3, hf4⟩, hR, hS, hLs⟩ := id hA
  exact lv_if_ne hx hb hd ht (fun z => kt z p e s m args below meth c R Z C hQ _ _ _ _ _ hA) (fun z => kf z p e s m args below meth c R Z C hQ _ _ _ _ _ hA)
theorem mw_if_lt {x : Int32} {off : Int} {tgt : Nat} (hd : decode k.2.1 pc = .ok (.ifCond .lt off, 3)) (hp : pc + 3 = pc') (ht : (pc : Int) + off = (tgt : Int)) (kt : x < 0 → mW G k d b tgt ls st h Q) (kf : ¬ (x < 0) → mW G k d b pc' ls st h Q) : mW G k d b pc ls (.inl x :: st) h Q := by
  subst hp
  intro p e s m args below meth c R Z C hQ H locs cells slots LS hA
  obtain ⟨hx, hb, hr, hml, hown, hts, hlk, hnm, hK⟩ := id C
  obtain ⟨⟨hf1, hf2, hf3, hf4⟩, hR, hS, hLs⟩ := id hA
  exact lv_if_lt hx hb hd ht (fun z => kt z p e s m args below meth c R Z C hQ _ _ _ _ _ hA) (fun z => kf z p e s m args below meth c R Z C hQ _ _ _ _ _ hA)
theorem mw_if_ge {x : Int32} {off : Int} {tgt : Nat} (hd : decode k.2.1 pc = .ok (.ifCond .ge off, 3)) (hp : pc + 3 = pc') (ht : (pc : Int) + off = (tgt : Int)) (kt : 0 ≤ x → mW G k d b tgt ls st h Q) (kf : ¬ (0 ≤ x) → mW G k d b pc' ls st h Q) : mW G k d b pc ls (.inl x :: st) h Q := by
  subst hp
  intro p e s m args below meth c R Z C hQ H locs cells slots LS hA
  obtain ⟨hx, hb, hr, hml, hown, hts, hlk, hnm, hK⟩ := id C
  obtain ⟨⟨hf1, hf2, hf3, hf4⟩, hR, hS, hLs⟩ := id hA
  exact lv_if_ge hx hb hd ht (fun z => kt z p e s m args below meth c R Z C hQ _ _ _ _ _ hA) (fun z => kf z p e s m args below meth c R Z C hQ _ _ _ _ _ hA)
theorem mw_if_gt {x : Int32} {off : Int} {tgt : Nat} (hd : decode k.2.1 pc = .ok (.ifCond .gt off, 3)) (hp : pc + 3 = pc') (ht : (pc : Int) + off = (tgt : Int)) (kt : 0 < x → mW G k d b tgt ls st h Q) (kf : ¬ (0 < x) → mW G k d b pc' ls st h Q) : mW G k d b pc ls (.inl x :: st) h Q := by
  subst hp
  intro p e s m args below meth c R Z C hQ H locs cells slots LS hA
  obtain ⟨hx, hb, hr, hml, hown, hts, hlk, hnm, hK⟩ := id C
  obtain ⟨⟨hf1, hf2, hf3, hf4⟩, hR, hS, hLs⟩ := id hA
  exact lv_if_gt hx hb hd ht (fun z => kt z p e s m args below meth c R Z C hQ _ _ _ _ _ hA) (fun z => kf z p e s m args below meth c R Z C hQ _ _ _ _ _ hA)
theorem mw_if_le {x : Int32} {off : Int} {tgt : Nat} (hd : decode k.2.1 pc = .ok (.ifCond .le off, 3)) (hp : pc + 3 = pc') (ht : (pc : Int) + off = (tgt : Int)) (kt : x ≤ 0 → mW G k d b tgt ls st h Q) (kf : ¬ (x ≤ 0) → mW G k d b pc' ls st h Q) : mW G k d b pc ls (.inl x :: st) h Q := by
  subst hp
  intro p e s m args below meth c R Z C hQ H locs cells slots LS hA
  obtain ⟨hx, hb, hr, hml, hown, hts, hlk, hnm, hK⟩ := id C
  obtain ⟨⟨hf1, hf2, hf3, hf4⟩, hR, hS, hLs⟩ := id hA
  exact lv_if_le hx hb hd ht (fun z => kt z p e s m args below meth c R Z C hQ _ _ _ _ _ hA) (fun z => kf z p e s m args below meth c R Z C hQ _ _ _ _ _ hA)
theorem mw_ifnull {r : Option Nat} {off : Int} {tgt : Nat} (hd : decode k.2.1 pc = .ok (.ifnull off, 3)) (hp : pc + 3 = pc') (ht : (pc : Int) + off = (tgt : Int)) (kt : r = none → mW G k d b tgt ls st h Q) (kf : ∀ a, r = some a → mW G k d b pc' ls st h Q) : mW G k d b pc ls (.inr r :: st) h Q := by
  subst hp
  intro p e s m args below meth c R Z C hQ H locs cells slots LS hA
  obtain ⟨hx, hb, hr, hml, hown, hts, hlk, hnm, hK⟩ := id C
  obtain ⟨⟨hf1, hf2, hf3, hf4⟩, hR, hS, hLs⟩ := id hA
  cases r with
  | none => exact lv_ifnullN hx hb hd ht (kt rfl p e s m args below meth c R Z C hQ _ _ _ _ _ hA)
  | some y => exact lv_ifnull hx hb hd (kf y rfl p e s m args below meth c R Z C hQ _ _ _ _ _ hA)
theorem mw_ifnonnull {r : Option Nat} {off : Int} {tgt : Nat} (hd : decode k.2.1 pc = .ok (.ifnonnull off, 3)) (hp : pc + 3 = pc') (ht : (pc : Int) + off = (tgt : Int)) (kt : ∀ a, r = some a → mW G k d b tgt ls st h Q) (kf : r = none → mW G k d b pc' ls st h Q) : mW G k d b pc ls (.inr r :: st) h Q := by
  subst hp
  intro p e s m args below meth c R Z C hQ H locs cells slots LS hA
  obtain ⟨hx, hb, hr, hml, hown, hts, hlk, hnm, hK⟩ := id C
  obtain ⟨⟨hf1, hf2, hf3, hf4⟩, hR, hS, hLs⟩ := id hA
  cases r with
  | none => exact lv_ifnonnullN hx hb hd (kf rfl p e s m args below meth c R Z C hQ _ _ _ _ _ hA)
  | some y => exact lv_ifnonnull hx hb hd ht (kt y rfl p e s m args below meth c R Z C hQ _ _ _ _ _ hA)
theorem mw_goto {off : Int} {tgt : Nat} (hd : decode k.2.1 pc = .ok (.goto off, 3)) (ht : (pc : Int) + off = (tgt : Int)) (kk : mW G k d b tgt ls st h Q) : mW G k d b pc ls st h Q := by
  intro p e s m args below meth c R Z C hQ H locs cells slots LS hA
  obtain ⟨hx, hb, hr, hml, hown, hts, hlk, hnm, hK⟩ := id C
  obtain ⟨⟨hf1, hf2, hf3, hf4⟩, hR, hS, hLs⟩ := id hA
  exact lv_goto hx hb hd ht (kk p e s m args below meth c R Z C hQ _ _ _ _ _ hA)
theorem mw_tableIn {dflt lo hi : Int} {offs : Array Int} {len : Nat} {x : Int32} {off : Int} {tgt : Nat} (hd : decode k.2.1 pc = .ok (.tableswitch dflt lo hi offs, len)) (h1 : ¬ x.toInt < lo) (h2 : ¬ hi < x.toInt) (ho : offs[(x.toInt - lo).toNat]? = some off) (ht : (pc : Int) + off = (tgt : Int)) (kk : mW G k d b tgt ls st h Q) : mW G k d b pc ls (.inl x :: st) h Q := by
  intro p e s m args below meth c R Z C hQ H locs cells slots LS hA
  obtain ⟨hx, hb, hr, hml, hown, hts, hlk, hnm, hK⟩ := id C
  obtain ⟨⟨hf1, hf2, hf3, hf4⟩, hR, hS, hLs⟩ := id hA
  exact lv_tableIn hx hb hd h1 h2 ho ht (kk p e s m args below meth c R Z C hQ _ _ _ _ _ hA)
theorem mw_tableOut {dflt lo hi : Int} {offs : Array Int} {len : Nat} {x : Int32} {tgt : Nat} (hd : decode k.2.1 pc = .ok (.tableswitch dflt lo hi offs, len)) (ho : x.toInt < lo ∨ hi < x.toInt) (ht : (pc : Int) + dflt = (tgt : Int)) (kk : mW G k d b tgt ls st h Q) : mW G k d b pc ls (.inl x :: st) h Q := by
  intro p e s m args below meth c R Z C hQ H locs cells slots LS hA
  obtain ⟨hx, hb, hr, hml, hown, hts, hlk, hnm, hK⟩ := id C
  obtain ⟨⟨hf1, hf2, hf3, hf4⟩, hR, hS, hLs⟩ := id hA
  exact lv_tableOut hx hb hd ho ht (kk p e s m args below meth c R Z C hQ _ _ _ _ _ hA)
theorem mw_ret (hd : decode k.2.1 pc = .ok (.return_, 1)) (hr : k.2.2.2 = none) (kk : Q none h) : mW G k d b pc ls [] h Q := by
  intro p e s m args below meth c R Z C hQ H locs cells slots LS hA
  obtain ⟨hx, hb, hr0, hml, hown, hts, hlk, hnm, hK⟩ := id C
  obtain ⟨⟨hf1, hf2, hf3, hf4⟩, hR, hS, hLs⟩ := id hA
  exact hQ pc LS H locs cells slots none h ⟨hd, hr⟩ kk hR hS (by omega) (by omega)
theorem mw_iret {x : Int32} {ty : FieldType} (hd : decode k.2.1 pc = .ok (.ireturn, 1)) (hr : k.2.2.2 = some ty) (hn : narrow ty (.int x) = .int x) (kk : Q (some (.inl x)) h) : mW G k d b pc ls [.inl x] h Q := by
  intro p e s m args below meth c R Z C hQ H locs cells slots LS hA
  obtain ⟨hx, hb, hr0, hml, hown, hts, hlk, hnm, hK⟩ := id C
  obtain ⟨⟨hf1, hf2, hf3, hf4⟩, hR, hS, hLs⟩ := id hA
  exact hQ pc LS H locs cells slots (some (.inl x)) h ⟨hd, ty, hr, hn⟩ kk hR hS (by omega) (by omega)
theorem mw_aret {r : Option Nat} {ty : FieldType} (hd : decode k.2.1 pc = .ok (.areturn, 1)) (hr : k.2.2.2 = some ty) (hn : (∃ n, ty = .object n) ∨ ∃ t, ty = .array t) (kk : Q (some (.inr r)) h) : mW G k d b pc ls [.inr r] h Q := by
  intro p e s m args below meth c R Z C hQ H locs cells slots LS hA
  obtain ⟨hx, hb, hr0, hml, hown, hts, hlk, hnm, hK⟩ := id C
  obtain ⟨⟨hf1, hf2, hf3, hf4⟩, hR, hS, hLs⟩ := id hA
  exact hQ pc LS H locs cells slots (some (.inr r)) h ⟨hd, ty, hr, hn⟩ kk hR hS (by omega) (by omega)
end
/-! rows that read and write cells -/
theorem m_cls {ci : Nat} {q : vw_C} (h : vwCl[ci]? = some q) : ci < 13 := by
  have := (List.getElem?_eq_some_iff.mp h).1
  simpa using this
set_option maxRecDepth 100000 in
theorem m_uws_all : ∀ q ∈ vwCl, ∀ w ∈ u_ws q.1 q.2.1 q.2.2, w ∈ mTs := by decide +kernel
theorem m_uws {ci : Nat} {q : vw_C} (h : vwCl[ci]? = some q) : ∀ w ∈ u_ws q.1 q.2.1 q.2.2, w ∈ mTs := m_uws_all q (List.mem_of_getElem? h)
theorem m_ty {ci : Nat} {q : vw_C} (h : vwCl[ci]? = some q) : ∀ k, k < q.2.2 → parseFieldDescriptor (q.2.1 k).2.2.1 = some (mTy ci k) := by
  have hl := m_cls h
  match ci, h with
  | 0, h => cases h; exact tyX0_ok
  | 1, h => cases h; exact tyX1_ok
  | 2, h => cases h; exact tyX2_ok
  | 3, h => cases h; exact tyX3_ok
  | 4, h => cases h; exact tyX4_ok
  | 5, h => cases h; exact tyX5_ok
  | 6, h => cases h; exact tyX6_ok
  | 7, h => cases h; exact tyX7_ok
  | 8, h => cases h; exact tyX8_ok
  | 9, h => cases h; exact tyX9_ok
  | 10, h => cases h; exact tyX10_ok
  | 11, h => cases h; exact tyX11_ok
  | 12, h => cases h; exact tyX12_ok
  | n + 13, h => omega
theorem m_nm {ci : Nat} {q : vw_C} (h : vwCl[ci]? = some q) : ∀ a, a < q.2.2 → ∀ b, b < q.2.2 → a ≠ b → (q.2.1 a).2.1 ≠ (q.2.1 b).2.1 := by
  have hl := m_cls h
  match ci, h with
  | 0, h => cases h; exact nmX0
  | 1, h => cases h; exact nmX1
  | 2, h => cases h; exact nmX2
  | 3, h => cases h; exact nmX3
  | 4, h => cases h; exact nmX4
  | 5, h => cases h; exact nmX5
  | 6, h => cases h; exact nmX6
  | 7, h => cases h; exact nmX7
  | 8, h => cases h; exact nmX8
  | 9, h => cases h; exact nmX9
  | 10, h => cases h; exact nmX10
  | 11, h => cases h; exact nmX11
  | 12, h => cases h; exact nmX12
  | n + 13, h => omega
theorem m_nf {ci : Nat} {q : vw_C} (h : vwCl[ci]? = some q) : mNf ci = q.2.2 := by simp only [mNf, h]
def mFin (ci j : Nat) : Bool := match vwCl[ci]? with
  | some q => (q.2.1 j).2.2.2
  | none => false
def mOwn (ci j : Nat) : String := match vwCl[ci]? with
  | some q => (q.2.1 j).1
  | none => ""
section
variable {G : mG} {k : mM} {d : Nat} {b : Nat × Nat} {pc pc' : Nat} {ls : List (Option mV)} {st : List mV} {h : mH} {Q : Option mV → mH → Prop}
theorem mw_get {a ci j idx : Nat} (hd : decode k.2.1 pc = .ok (.getfield idx, 3)) (hp : pc + 3 = pc') (hl : mFL k.1.cls idx ci j) (ha : mT h a = ci + 1) (v : mV) (hv : v = if mFr ci j = true then .inr (mR h a j) else .inl (mI h a j)) (kk : mW G k d b pc' ls (v :: st) h Q) : mW G k d b pc ls (.inr (some a) :: st) h Q := by
  subst hp
  subst hv
  intro p e s m args below meth c R Z C hQ H locs cells slots LS hA
  obtain ⟨hx, hb, hr, hml, hown, hts, hlk, hnm, hK⟩ := id C
  obtain ⟨⟨hf1, hf2, hf3, hf4⟩, hR, hS, hLs⟩ := id hA
  obtain ⟨q, hc, hj, hlk⟩ := hl
  obtain ⟨C0, T0, N0⟩ := q
  have hcl := m_cls hc
  obtain ⟨h1, h2, h3⟩ := hR.at ha (by omega)
  rw [mCell_obj ha (by omega)] at h3
  have hnf : mNf ci = N0 := m_nf hc
  refine va_get (a := mRho G a) hx hb hts (m_uws hc) hown hK.1 hR.2.2.1 (a - 8) h3 hc j hj (hts _ hlk) (fun _ z => z) (mFs_at (by rw [hnf]; exact hj)) hd ?_
  have := kk p e s m args below meth c R Z C hQ _ _ _ _ _ hA
  by_cases hf : mFr ci j = true
  · rw [if_pos hf] at this ⊢
    exact this
  · rw [if_neg hf] at this ⊢
    exact this
theorem mw_getI {a ci j idx : Nat} (hd : decode k.2.1 pc = .ok (.getfield idx, 3)) (hp : pc + 3 = pc') (hl : mFL k.1.cls idx ci j) (hf : mFr ci j = false) (ha : mT h a = ci + 1) (kk : mW G k d b pc' ls (.inl (mI h a j) :: st) h Q) : mW G k d b pc ls (.inr (some a) :: st) h Q :=
  mw_get hd hp hl ha (.inl (mI h a j)) (by rw [hf]; rfl) kk
theorem mw_getR {a ci j idx : Nat} (hd : decode k.2.1 pc = .ok (.getfield idx, 3)) (hp : pc + 3 = pc') (hl : mFL k.1.cls idx ci j) (hf : mFr ci j = true) (ha : mT h a = ci + 1) (kk : mW G k d b pc' ls (.inr (mR h a j) :: st) h Q) : mW G k d b pc ls (.inr (some a) :: st) h Q :=
  mw_get hd hp hl ha (.inr (mR h a j)) (by rw [hf]; rfl) kk
/-- a store into a cell that leaves size, tags and the other cells -/
theorem mRel_set {G : mG} {h h' : mH} {H H1 : Heap} {a : Nat} {e0 e : va_E} (r : mRel G h H) (h1 : 8 ≤ a) (h2 : a < mN h) (hc0 : mCell G h a = e0) (hn : mN h' = mN h) (ht : mT h' = mT h) (hc : mCell G h' a = e) (ho : ∀ i, i ≠ a → mCell G h' i = mCell G h i) (z : H1.size = H.size) (oq : ∀ q : Nat, q ≠ mRho G a → H1[q]? = H[q]?) (he : va_at (gD G) vwCl (mRho G a, e) H1) : mRel G h' H1 := by
  refine ⟨by rw [z, hn]; exact r.1, by rw [hn]; exact r.2.1, ?_, fun i hi => by rw [hn]; exact r.2.2.2.1 i (by rw [← ht]; exact hi), by rw [hn]; exact r.2.2.2.2⟩
  have := r.2.2.1.set (mWs_D G h r.2.2.2.2) (mWs_at h1 h2) he oq
  rw [mWs_set h1 hn hc ho] at this
  exact this
theorem m_frN {ci j : Nat} {v : Value} (hf : mFr ci j = true) (hv : v = .null ∨ ∃ a, v = .ref a) : narrow (mTy ci j) v = v ∧ fits (mTy ci j) v = true := by
  unfold mFr at hf
  rcases hv with rfl | ⟨a, rfl⟩ <;> (cases ht : mTy ci j <;> rw [ht] at hf <;> first | exact ⟨rfl, rfl⟩ | cases hf)
theorem m_rho_A {G : mG} {h : mH} {H : Heap} {a : Nat} (r : mRel G h H) (h1 : 8 ≤ a) (h2 : a < mN h) : mA G (mRho G a) := (r.2.2.2.2.2.1 a h1 h2).1
theorem mFs_setI {G : mG} {h : mH} {a ci j : Nat} {x : Int32} (hj : j < mNf ci) (hf : mFr ci j = false) : mFs G (mSI h a j x) a ci = (mFs G h a ci).set j (.int x) := by
  apply List.ext_getElem?
  intro i
  by_cases hi : i < mNf ci
  · rw [mFs_at hi]
    by_cases hij : j = i
    · subst hij
      rw [List.getElem?_set_self (by rw [mFs_len]; exact hj), hf]
      simp [mI, mSI, mU]
    · rw [List.getElem?_set_ne hij, mFs_at hi]
      simp [mI, mR, mSI, mU, Ne.symm hij]
  · rw [List.getElem?_eq_none (by rw [mFs_len]; omega), List.getElem?_eq_none (by rw [List.length_set, mFs_len]; omega)]
theorem mFs_setR {G : mG} {h : mH} {a ci j : Nat} {x : Option Nat} (hj : j < mNf ci) (hf : mFr ci j = true) : mFs G (mSR h a j x) a ci = (mFs G h a ci).set j (va_rf (x.map (mRho G))) := by
  apply List.ext_getElem?
  intro i
  by_cases hi : i < mNf ci
  · rw [mFs_at hi]
    by_cases hij : j = i
    · subst hij
      rw [List.getElem?_set_self (by rw [mFs_len]; exact hj), hf]
      simp [mR, mSR, mU]
    · rw [List.getElem?_set_ne hij, mFs_at hi]
      simp [mI, mR, mSR, mU, Ne.symm hij]
  · rw [List.getElem?_eq_none (by rw [mFs_len]; omega), List.getElem?_eq_none (by rw [List.length_set, mFs_len]; omega)]
theorem mSI_off {G : mG} {h : mH} {a j : Nat} {x : Int32} {i : Nat} (hi : i ≠ a) : mCell G (mSI h a j x) i = mCell G h i :=
  mCell_off rfl rfl (by show mU _ a j x i = _; rw [mU_off hi]; rfl) rfl
theorem mSR_off {G : mG} {h : mH} {a j : Nat} {x : Option Nat} {i : Nat} (hi : i ≠ a) : mCell G (mSR h a j x) i = mCell G h i :=
  mCell_off rfl rfl rfl (by show mU _ a j x i = _; rw [mU_off hi]; rfl)
/-- a putfield, of either kind -/
theorem mw_put {a ci j idx : Nat} {v : mV} {h' : mH} (hd : decode k.2.1 pc = .ok (.putfield idx, 3)) (hp : pc + 3 = pc') (hl : mFL k.1.cls idx ci j) (hfin : mFin ci j = false ∨ (mFin ci j = true ∧ k.1.name = "<init>" ∧ mOwn ci j = k.1.cls)) (hn : narrow (mTy ci j) (mTr G v) = mTr G v) (hfit : fits (mTy ci j) (mTr G v) = true) (ha : mT h a = ci + 1)
    (n1 : mN h' = mN h) (n2 : mT h' = mT h) (n3 : mFs G h' a ci = (mFs G h a ci).set j (mTr G v)) (n4 : ∀ i, i ≠ a → mCell G h' i = mCell G h i) (kk : mW G k d b pc' ls st h' Q) : mW G k d b pc ls (v :: .inr (some a) :: st) h Q := by
  subst hp
  intro p e s m args below meth c R Z C hQ H locs cells slots LS hA
  obtain ⟨hx, hb, hr, hml, hown, hts, hlk, hnm0, hK⟩ := id C
  obtain ⟨⟨hf1, hf2, hf3, hf4⟩, hR, hS, hLs⟩ := id hA
  obtain ⟨q, hc, hj, hlk⟩ := hl
  obtain ⟨C0, T0, N0⟩ := q
  have hcl := m_cls hc
  obtain ⟨h1, h2, h3⟩ := hR.at ha (by omega)
  have hcell := mCell_obj (G := G) ha (by omega)
  rw [hcell] at h3
  have hnf : mNf ci = N0 := m_nf hc
  have hin := m_uws hc
  have hty := m_ty hc
  have hap := va_apart (own := k.1.cls) hts hin (mTy ci) hty (m_nm hc) hK.1 hc
  obtain ⟨r, g1, cell, q1, q2, q3, q4⟩ := hR.2.2.1 (a - 8) _ h3
  have hr0 : r = (C0, T0, N0) := Option.some.inj (g1.symm.trans hc)
  subst hr0
  obtain ⟨hSl, hfc, kC, hkC, hkind⟩ := hK.1.1 ci _ hc
  obtain ⟨cf, kf, fi, f, hi, hsl⟩ := hSl j hj
  have hst := (u_facts hfc hkC (u_lays hts hin hj) hi).1
  have hlay := hts _ (hin _ (u_in_lay hj))
  unfold u_lay at hlay
  have key : ∀ H' : Heap, H'[mRho G a]? = some (cell.setSlot f.slot (mTr G v)) → H'.size = H.size → (∀ q, q ≠ mRho G a → H'[q]? = H[q]?) → W p (gL G) e R s m args below meth c H' (locs ++ [⟨mRho G a, f.slot⟩]) cells slots Z (F0 m (pc + 3) LS (st.map (mTr G))) := by
    intro H1 e1 e2 e3
    rw [hsl] at e1 ⊢
    have hrel : mRel G h' H1 := mRel_set (e := .inr (ci, (mFs G h a ci).set j (mTr G v))) hR h1 h2 hcell n1 n2 (by rw [mCell_obj (by rw [n2]; exact ha) (by omega), n3]) n4 e2 e3 ⟨_, hc, t_OB.to (V := updV (vp_V (mFs G h a ci)) j (mTr G v)) ⟨_, e1, q2, q3, t_set q4 hap hj (mTr G v)⟩ (fun i _ => vp_updV_set (by rw [mFs_len, hnf]; exact hj) (mTr G v) i)⟩
    exact kk p e s m args below meth c R Z C hQ _ _ _ _ _ ⟨hA.1, hrel, hS.put e2 e3 (m_rho_A hR h1 h2), hLs⟩
  rcases hfin with hfin | ⟨hfin, hin2, hdecl⟩
  · have hfin' : (T0 j).2.2.2 = false := by simp only [mFin, hc] at hfin; exact hfin
    dsimp only at hlay
    rw [if_neg (by rw [hfin']; decide)] at hlay
    have h6 := u_store hfc hkC hkind hlay hi (hty j hj) hn hfit
    exact W.putK hx hb (f := f) ⟨hown, hts _ hlk, ⟨_, _, _, hi⟩, hst⟩ (by rw [q2]; exact h6) q1 q3 (by rw [hsl]; exact k2_hasslot (q4 j hj)) rfl rfl hd key
  · have hfin' : (T0 j).2.2.2 = true := by simp only [mFin, hc] at hfin; exact hfin
    have hdecl' : (T0 j).1 = k.1.cls := by simp only [mOwn, hc] at hdecl; exact hdecl
    dsimp only at hlay
    rw [if_pos hfin'] at hlay
    have hcf : m.cls = cf := by
      obtain ⟨_, _, c', _, _, _, -, -, hf', -, -, -, hown2, -⟩ := Cond.laysFinal_spec hlay
      have e1 : c' = cf := by have := hi.symm.trans hf'; simp at this; exact this.1.symm
      rw [hdecl'] at hown2
      rw [← e1]; exact Option.some.inj (hown.symm.trans hown2)
    have h6 := u_fits hfc hkC hkind (Or.inr hlay) hi (hty j hj) hn hfit
    exact W.putFinK hx hb hown (hts _ hlk) hi hst hcf (hnm0 hin2) (by rw [q2]; exact h6) q1 q3 (by rw [hsl]; exact k2_hasslot (q4 j hj)) rfl rfl hd key
theorem m_flNf {own : String} {idx ci j : Nat} (hl : mFL own idx ci j) : j < mNf ci := by
  obtain ⟨q, hc, hj, -⟩ := hl
  rw [m_nf hc]; exact hj
theorem mw_putI {a ci j idx : Nat} {x : Int32} (hd : decode k.2.1 pc = .ok (.putfield idx, 3)) (hp : pc + 3 = pc') (hl : mFL k.1.cls idx ci j) (hf : mFr ci j = false) (hfin : mFin ci j = false ∨ (mFin ci j = true ∧ k.1.name = "<init>" ∧ mOwn ci j = k.1.cls)) (hn : narrow (mTy ci j) (.int x) = .int x ∧ fits (mTy ci j) (.int x) = true) (ha : mT h a = ci + 1) (kk : mW G k d b pc' ls st (mSI h a j x) Q) : mW G k d b pc ls (.inl x :: .inr (some a) :: st) h Q :=
  mw_put (h' := mSI h a j x) hd hp hl hfin hn.1 hn.2 ha rfl rfl (mFs_setI (m_flNf hl) hf) (fun _ hi => mSI_off hi) kk
theorem mw_putR {a ci j idx : Nat} {r : Option Nat} (hd : decode k.2.1 pc = .ok (.putfield idx, 3)) (hp : pc + 3 = pc') (hl : mFL k.1.cls idx ci j) (hf : mFr ci j = true) (hfin : mFin ci j = false ∨ (mFin ci j = true ∧ k.1.name = "<init>" ∧ mOwn ci j = k.1.cls)) (ha : mT h a = ci + 1) (kk : mW G k d b pc' ls st (mSR h a j r) Q) : mW G k d b pc ls (.inr r :: .inr (some a) :: st) h Q :=
  mw_put (h' := mSR h a j r) hd hp hl hfin (m_frN hf (va_rf_or _)).1 (m_frN hf (va_rf_or _)).2 ha rfl rfl (mFs_setR (m_flNf hl) hf) (fun _ hi => mSR_off hi) kk
/-! arrays -/
theorem mw_iald {a : Nat} {i : Int32} (hd : decode k.2.1 pc = .ok (.iaload, 1)) (hp : pc + 1 = pc') (ha : mT h a = 100) (hi : vp_in i (mL h a)) (kk : mW G k d b pc' ls (.inl (mI h a i.toNatClampNeg) :: st) h Q) : mW G k d b pc ls (.inl i :: .inr (some a) :: st) h Q := by
  subst hp
  intro p e s m args below meth c R Z C hQ H locs cells slots LS hA
  obtain ⟨hx, hb, hr, hml, hown, hts, hlk, hnm, hK⟩ := id C
  obtain ⟨⟨hf1, hf2, hf3, hf4⟩, hR, hS, hLs⟩ := id hA
  obtain ⟨h1, h2, h3⟩ := hR.at ha (by omega)
  rw [mCell_int ha] at h3
  exact va_iald (a := mRho G a) hx hb hK.1 hR.2.2.1 (a - 8) 0 h3 rfl hi hd (kk p e s m args below meth c R Z C hQ _ _ _ _ _ hA)
theorem mw_bald {a : Nat} {i : Int32} (hd : decode k.2.1 pc = .ok (.baload, 1)) (hp : pc + 1 = pc') (ha : mT h a = 101) (hi : vp_in i (mL h a)) (kk : mW G k d b pc' ls (.inl (mI h a i.toNatClampNeg) :: st) h Q) : mW G k d b pc ls (.inl i :: .inr (some a) :: st) h Q := by
  subst hp
  intro p e s m args below meth c R Z C hQ H locs cells slots LS hA
  obtain ⟨hx, hb, hr, hml, hown, hts, hlk, hnm, hK⟩ := id C
  obtain ⟨⟨hf1, hf2, hf3, hf4⟩, hR, hS, hLs⟩ := id hA
  obtain ⟨h1, h2, h3⟩ := hR.at ha (by omega)
  rw [mCell_bool ha] at h3
  exact va_zald (a := mRho G a) hx hb hK.1 hR.2.2.1 (a - 8) 1 h3 rfl hi hd (kk p e s m args below meth c R Z C hQ _ _ _ _ _ hA)
theorem mw_yald {a : Nat} {i : Int32} (hd : decode k.2.1 pc = .ok (.baload, 1)) (hp : pc + 1 = pc') (ha : mT h a = 105) (hi : vp_in i (mL h a)) (kk : mW G k d b pc' ls (.inl (mI h a i.toNatClampNeg) :: st) h Q) : mW G k d b pc ls (.inl i :: .inr (some a) :: st) h Q := by
  subst hp
  intro p e s m args below meth c R Z C hQ H locs cells slots LS hA
  obtain ⟨hx, hb, hr, hml, hown, hts, hlk, hnm, hK⟩ := id C
  obtain ⟨⟨hf1, hf2, hf3, hf4⟩, hR, hS, hLs⟩ := id hA
  obtain ⟨h1, h2, h3⟩ := hR.at ha (by omega)
  rw [mCell_byte ha] at h3
  exact va_bald (a := mRho G a) hx hb hK.1 hR.2.2.1 (a - 8) 5 h3 rfl hi hd (kk p e s m args below meth c R Z C hQ _ _ _ _ _ hA)
theorem m_tyR (G : mG) {t : Nat} (ht : t < 3) : ∃ C : String, (mTys G)[2 + t]? = some (gA G (2 + t), .object C) := by
  match t, ht with
  | 0, _ => exact ⟨_, rfl⟩
  | 1, _ => exact ⟨_, rfl⟩
  | 2, _ => exact ⟨_, rfl⟩
theorem mw_aald {a t : Nat} {i : Int32} (hd : decode k.2.1 pc = .ok (.aaload, 1)) (hp : pc + 1 = pc') (ht : t < 3) (ha : mT h a = 110 + t) (hi : vp_in i (mL h a)) (kk : mW G k d b pc' ls (.inr (mR h a i.toNatClampNeg) :: st) h Q) : mW G k d b pc ls (.inl i :: .inr (some a) :: st) h Q := by
  subst hp
  intro p e s m args below meth c R Z C hQ H locs cells slots LS hA
  obtain ⟨hx, hb, hr, hml, hown, hts, hlk, hnm, hK⟩ := id C
  obtain ⟨⟨hf1, hf2, hf3, hf4⟩, hR, hS, hLs⟩ := id hA
  obtain ⟨h1, h2, h3⟩ := hR.at ha (by omega)
  rw [mCell_ref ha] at h3
  obtain ⟨C0, hC0⟩ := m_tyR G ht
  exact va_aldq (a := mRho G a) hx hb hK.1 hR.2.2.1 (a - 8) (2 + t) h3 hC0 hi hd (kk p e s m args below meth c R Z C hQ _ _ _ _ _ hA)
theorem m_vpin {i : Int32} {n : Nat} (h : vp_in i n) : i.toNatClampNeg < n := Nat.not_le.mp fun q => h (Or.inr q)
theorem mw_iast {a : Nat} {i x : Int32} (hd : decode k.2.1 pc = .ok (.iastore, 1)) (hp : pc + 1 = pc') (ha : mT h a = 100) (hi : vp_in i (mL h a)) (kk : mW G k d b pc' ls st (mSI h a i.toNatClampNeg x) Q) : mW G k d b pc ls (.inl x :: .inl i :: .inr (some a) :: st) h Q := by
  subst hp
  intro p e s m args below meth c R Z C hQ H locs cells slots LS hA
  obtain ⟨hx, hb, hr, hml, hown, hts, hlk, hnm, hK⟩ := id C
  obtain ⟨⟨hf1, hf2, hf3, hf4⟩, hR, hS, hLs⟩ := id hA
  obtain ⟨h1, h2, h3⟩ := hR.at ha (by omega)
  have hcell := mCell_int (G := G) ha
  rw [hcell] at h3
  refine W.iast (a := mRho G a) hx hb (hR.2.2.1 (a - 8) _ h3) ((hK.1.2 0 _ rfl).1 (mL h a) (fun j => .int (mI h a j))) (fun q => by cases q) (by show ¬ (i < 0 ∨ (arrV _ _ _).slots.size ≤ _); rw [arrV_size]; exact hi) rfl rfl hd fun H1 e1 z oq => ?_
  refine kk p e s m args below meth c R Z C hQ _ _ _ _ _ ⟨hA.1, mRel_set hR h1 h2 hcell rfl rfl (mCell_int ha) (fun _ hi => mSI_off hi) z oq ?_, hS.put z oq (m_rho_A hR h1 h2), hLs⟩
  show H1[mRho G a]? = some (vp_cell _ _)
  rw [e1, vp_cell_i, vp_cell_i, arrV_store]
  congr 2
  funext q
  by_cases hq : q = i.toNatClampNeg
  · subst hq
    simp [updV, mI, mSI, mU]
  · simp [updV, mI, mSI, mU, hq]
theorem mw_bast {a : Nat} {i x : Int32} (hd : decode k.2.1 pc = .ok (.bastore, 1)) (hp : pc + 1 = pc') (ha : mT h a = 101) (hi : vp_in i (mL h a)) (hn : narrow .boolean (.int x) = .int x) (kk : mW G k d b pc' ls st (mSI h a i.toNatClampNeg x) Q) : mW G k d b pc ls (.inl x :: .inl i :: .inr (some a) :: st) h Q := by
  subst hp
  intro p e s m args below meth c R Z C hQ H locs cells slots LS hA
  obtain ⟨hx, hb, hr, hml, hown, hts, hlk, hnm, hK⟩ := id C
  obtain ⟨⟨hf1, hf2, hf3, hf4⟩, hR, hS, hLs⟩ := id hA
  obtain ⟨h1, h2, h3⟩ := hR.at ha (by omega)
  have hcell := mCell_bool (G := G) ha
  rw [hcell] at h3
  refine W.zast (a := mRho G a) hx hb (hR.2.2.1 (a - 8) _ h3) ((hK.1.2 1 _ rfl).1 (mL h a) (fun j => .int (mI h a j))) (fun q => by cases q) (by show ¬ (i < 0 ∨ (arrV _ _ _).slots.size ≤ _); rw [arrV_size]; exact hi) rfl rfl hd fun H1 e1 z oq => ?_
  rw [hn] at e1
  refine kk p e s m args below meth c R Z C hQ _ _ _ _ _ ⟨hA.1, mRel_set hR h1 h2 hcell rfl rfl (mCell_bool ha) (fun _ hi => mSI_off hi) z oq ?_, hS.put z oq (m_rho_A hR h1 h2), hLs⟩
  show H1[mRho G a]? = some (vp_cell _ _)
  rw [e1, vp_cell_i, vp_cell_i, arrV_store]
  congr 2
  funext q
  by_cases hq : q = i.toNatClampNeg
  · subst hq
    simp [updV, mI, mSI, mU]
  · simp [updV, mI, mSI, mU, hq]
theorem mw_yast {a : Nat} {i x : Int32} (hd : decode k.2.1 pc = .ok (.bastore, 1)) (hp : pc + 1 = pc') (ha : mT h a = 105) (hi : vp_in i (mL h a)) (kk : mW G k d b pc' ls st (mSI h a i.toNatClampNeg x.toInt8.toInt32) Q) : mW G k d b pc ls (.inl x :: .inl i :: .inr (some a) :: st) h Q := by
  subst hp
  intro p e s m args below meth c R Z C hQ H locs cells slots LS hA
  obtain ⟨hx, hb, hr, hml, hown, hts, hlk, hnm, hK⟩ := id C
  obtain ⟨⟨hf1, hf2, hf3, hf4⟩, hR, hS, hLs⟩ := id hA
  obtain ⟨h1, h2, h3⟩ := hR.at ha (by omega)
  have hcell := mCell_byte (G := G) ha
  rw [hcell] at h3
  refine W.bast (a := mRho G a) hx hb (hR.2.2.1 (a - 8) _ h3) ((hK.1.2 5 _ rfl).1 (mL h a) (fun j => .int (mI h a j))) (fun q => by cases q) (by show ¬ (i < 0 ∨ (arrV _ _ _).slots.size ≤ _); rw [arrV_size]; exact hi) rfl rfl hd fun H1 e1 z oq => ?_
  rw [show narrow .byte (.int x) = .int x.toInt8.toInt32 from rfl] at e1
  refine kk p e s m args below meth c R Z C hQ _ _ _ _ _ ⟨hA.1, mRel_set hR h1 h2 hcell rfl rfl (mCell_byte ha) (fun _ hi => mSI_off hi) z oq ?_, hS.put z oq (m_rho_A hR h1 h2), hLs⟩
  show H1[mRho G a]? = some (vp_cell _ _)
  rw [e1, vp_cell_i, vp_cell_i, arrV_store]
  congr 2
  funext q
  by_cases hq : q = i.toNatClampNeg
  · subst hq
    simp [updV, mI, mSI, mU]
  · simp [updV, mI, mSI, mU, hq]
theorem m_tyC (G : mG) {t : Nat} (ht : t < 3) : ∃ q : vw_C, vwCl[mAc t]? = some q ∧ (mTys G)[2 + t]? = some (gA G (2 + t), .object q.1) := by
  match t, ht with
  | 0, _ => exact ⟨_, rfl, rfl⟩
  | 1, _ => exact ⟨_, rfl, rfl⟩
  | 2, _ => exact ⟨_, rfl, rfl⟩
theorem mw_aast {a v t : Nat} {i : Int32} (hd : decode k.2.1 pc = .ok (.aastore, 1)) (hp : pc + 1 = pc') (ht : t < 3) (ha : mT h a = 110 + t) (hv : mT h v = mAc t + 1) (hi : vp_in i (mL h a)) (kk : mW G k d b pc' ls st (mSR h a i.toNatClampNeg (some v)) Q) : mW G k d b pc ls (.inr (some v) :: .inl i :: .inr (some a) :: st) h Q := by
  subst hp
  intro p e s m args below meth c R Z C hQ H locs cells slots LS hA
  obtain ⟨hx, hb, hr, hml, hown, hts, hlk, hnm, hK⟩ := id C
  obtain ⟨⟨hf1, hf2, hf3, hf4⟩, hR, hS, hLs⟩ := id hA
  obtain ⟨h1, h2, h3⟩ := hR.at ha (by omega)
  have hcell := mCell_ref (G := G) ha
  rw [hcell] at h3
  obtain ⟨hv1, hv2, hv3⟩ := hR.at hv (by omega)
  obtain ⟨r, hc, hty⟩ := m_tyC G ht
  have hcl := m_cls hc
  rw [mCell_obj hv (by omega)] at hv3
  obtain ⟨r', hr', cellV, g1, g2, g3, -⟩ := hR.2.2.1 _ _ hv3
  have hcls := (hK.1.1 (mAc t) r hc).2
  obtain ⟨kA, comp, k1, k2, k3, -⟩ := (hK.1.2 _ _ hty).2
  have hcomp : comp = (gD G).1 (mAc t) := Option.some.inj (k3.symm.trans hcls.1)
  subst hcomp
  obtain ⟨kC, hkC, -⟩ := hcls.2
  refine W.aast (a := mRho G a) (v := mRho G v) hx hb (hR.2.2.1 (a - 8) _ h3) (fun q h => by cases h) (fun h => by cases h) k1 k2 rfl hkC ⟨fun q => hi (Or.inl q), by show _ < (arrV _ _ _).slots.size; rw [arrV_size]; exact m_vpin hi⟩ g1 (fun q h => by rw [g3] at h; cases h) (by rw [g2]; exact hkC) (by rw [g2]; exact va_assign hcls) rfl rfl hd fun H1 e1 z oq => ?_
  refine kk p e s m args below meth c R Z C hQ _ _ _ _ _ ⟨hA.1, mRel_set hR h1 h2 hcell rfl rfl (mCell_ref ha) (fun _ hi => mSR_off hi) z oq ?_, hS.put z oq (m_rho_A hR h1 h2), hLs⟩
  show H1[mRho G a]? = some (vp_cell _ _)
  rw [e1, vp_cell_q, vp_cell_q, arrV_store]
  congr 2
  funext q
  by_cases hq : q = i.toNatClampNeg
  · subst hq
    simp [updV, mR, mSR, mU, va_rf]
  · simp [updV, mR, mSR, mU, hq]
theorem mw_alen {a t : Nat} (hd : decode k.2.1 pc = .ok (.arraylength, 1)) (hp : pc + 1 = pc') (ht : t < 2) (ha : mT h a = 100 + t) (kk : mW G k d b pc' ls (.inl (nI (mL h a)) :: st) h Q) : mW G k d b pc ls (.inr (some a) :: st) h Q := by
  subst hp
  intro p e s m args below meth c R Z C hQ H locs cells slots LS hA
  obtain ⟨hx, hb, hr, hml, hown, hts, hlk, hnm, hK⟩ := id C
  obtain ⟨⟨hf1, hf2, hf3, hf4⟩, hR, hS, hLs⟩ := id hA
  obtain ⟨h1, h2, h3⟩ := hR.at ha (by omega)
  match t, ht with
  | 0, _ =>
    rw [mCell_int ha] at h3
    exact va_alen (a := mRho G a) hx hb hK.1 hR.2.2.1 (a - 8) 0 h3 rfl rfl hd (kk p e s m args below meth c R Z C hQ _ _ _ _ _ hA)
  | 1, _ =>
    rw [mCell_bool ha] at h3
    exact va_alen (a := mRho G a) hx hb hK.1 hR.2.2.1 (a - 8) 1 h3 rfl rfl hd (kk p e s m args below meth c R Z C hQ _ _ _ _ _ hA)
/-! new cells -/
theorem mAl_T {h : mH} {t n : Nat} : mT (mAl h t n) (mN h) = t := if_pos rfl
theorem mAl_off {G : mG} {h : mH} {t n i : Nat} (hi : i ≠ mN h) : mCell G (mAl h t n) i = mCell G h i :=
  mCell_off (if_neg hi) (if_neg hi) (if_neg hi) (if_neg hi)
theorem mRel_new {G : mG} {h : mH} {H H1 : Heap} {t n : Nat} {e : va_E} (r : mRel G h H) (ht : t ≠ 0) (hc : mCell G (mAl h t n) (mN h) = e) (z : H1.size = H.size + 1) (oq : ∀ q : Nat, q < H.size → H1[q]? = H[q]?) (he : va_at (gD G) vwCl (H.size, e) H1) : mRel G (mAl h t n) H1 := by
  have hn : mN (mAl h t n) = mN h + 1 := rfl
  have h8 := r.2.1
  refine ⟨by rw [z, hn, r.1]; omega, by rw [hn]; omega, ?_, fun i hi => ?_, by rw [hn]; exact r.2.2.2.2.succ h8⟩
  · have hw : mWs G (mAl h t n) = mWs G h ++ [(H.size, e)] := by
      unfold mWs
      rw [hn, show mN h + 1 - 8 = (mN h - 8) + 1 by omega, List.range_succ, List.map_append]
      congr 1
      · apply List.map_congr_left
        intro j hj
        have := List.mem_range.mp hj
        rw [mAl_off (by omega)]
      · simp only [List.map_cons, List.map_nil]
        rw [show mN h - 8 + 8 = mN h by omega, hc, r.1, show mRho G (mN h) = gB G + (mN h - 8) from r.2.2.2.2.1 _ (Nat.le_refl _)]
    rw [hw]
    exact va_P.app (r.2.2.1.kept (fun j q hq => oq _ (r.2.2.1 j q hq).lt)) (fun j q hq => by
      have hz : j < 1 := (List.getElem?_eq_some_iff.mp hq).1
      rw [show j = 0 by omega] at hq
      cases hq
      exact he)
  · by_cases hq : i = mN h
    · rw [hn]; omega
    · have := r.2.2.2.1 i (by rw [show mT (mAl h t n) i = mT h i from if_neg hq] at hi; exact hi)
      rw [hn]; omega
theorem m_rho_new {G : mG} {h : mH} {H : Heap} (r : mRel G h H) : mRho G (mN h) = H.size := by
  rw [r.1]
  exact r.2.2.2.2.1 _ (Nat.le_refl _)
theorem m_S_new {G : mG} {H0 H H1 : Heap} {locs : List Loc} (hS : va_S (mA G) H0 H locs) (z : H1.size = H.size + 1) (oq : ∀ q : Nat, q < H.size → H1[q]? = H[q]?) : va_S (mA G) H0 H1 locs :=
  ⟨Nat.le_trans hS.1 (by omega), fun x h1 h2 => (oq x (Nat.lt_of_lt_of_le h1 hS.1)).trans (hS.2.1 x h1 h2), hS.2.2⟩
set_option maxRecDepth 100000 in
theorem m_arrI : Cond.arrayClass .int ∈ mTs := mTs_mem (by decide +kernel) (by decide +kernel)
set_option maxRecDepth 100000 in
theorem m_arrY : Cond.arrayClass .byte ∈ mTs := mTs_mem (by decide +kernel) (by decide +kernel)
set_option maxRecDepth 100000 in
theorem m_arrZ : Cond.arrayClass .boolean ∈ mTs := mTs_mem (by decide +kernel) (by decide +kernel)
theorem mw_newa {i : Int32} {n : Nat} {b1 b2 : Nat} {t : Nat} {aty : ArrayType} (hd : decode k.2.1 pc = .ok (.newarray aty, 2)) (hp : pc + 2 = pc') (hty : (aty = .int ∧ t = 0) ∨ (aty = .boolean ∧ t = 1) ∨ (aty = .byte ∧ t = 5)) (hi : ¬ i < 0) (hin : i.toNatClampNeg = n) (hb8 : n * 8 ≤ 536870912) (hb : b = (b1 + 1, b2 + n)) (kk : mW G k d (b1, b2) pc' ls (.inr (some (mN h)) :: st) (mAl h (100 + t) n) Q) : mW G k d b pc ls (.inl i :: st) h Q := by
  subst hp
  subst hb
  intro p e s m args below meth c R Z C hQ H locs cells slots LS hA
  obtain ⟨hx, hbc, hr, hml, hown, hts, hlk, hnm, hK⟩ := id C
  obtain ⟨⟨hf1, hf2, hf3, hf4⟩, hR, hS, hLs⟩ := id hA
  dsimp only at hf3 hf4
  have hrho := m_rho_new (G := G) hR
  rcases hty with ⟨rfl, rfl⟩ | ⟨rfl, rfl⟩ | ⟨rfl, rfl⟩
  · refine va_newaK (atype := .int) (N := n) hx hbc (hts _ m_arrI) rfl hd rfl hi hin (by show n * 4 ≤ _; omega) (by omega) (by omega) rfl fun H1 cA e1 z1 o1 hAr hNm => ?_
    have hcA : cA = gA G 0 := by
      have := (hK.1.2 0 _ rfl).2
      exact Option.some.inj (hNm.symm.trans this)
    subst hcA
    have hrel : mRel G (mAl h 100 n) H1 := by
      refine mRel_new hR (by omega) (e := .inl (gA G 0, n, .inl (fun _ => 0))) ?_ z1 o1 ?_
      · rw [mCell_int mAl_T]
        simp [mL, mI, mAl, mN]
      · show H1[H.size]? = some (vp_cell _ _)
        rw [e1]; rfl
    rw [← hrho]
    exact kk p e s m args below meth c R Z C hQ H1 locs (cells + 1) (slots + n) LS ⟨⟨hf1, hf2, by show cells + 1 + b1 ≤ _; omega, by show slots + n + b2 ≤ _; omega⟩, hrel, m_S_new hS z1 o1, hLs⟩
  · refine va_newaK (atype := .boolean) (N := n) hx hbc (hts _ m_arrZ) rfl hd rfl hi hin (by show n * 1 ≤ _; omega) (by omega) (by omega) rfl fun H1 cA e1 z1 o1 hAr hNm => ?_
    have hcA : cA = gA G 1 := by
      have := (hK.1.2 1 _ rfl).2
      exact Option.some.inj (hNm.symm.trans this)
    subst hcA
    have hrel : mRel G (mAl h 101 n) H1 := by
      refine mRel_new hR (by omega) (e := .inl (gA G 1, n, .inl (fun _ => 0))) ?_ z1 o1 ?_
      · rw [mCell_bool mAl_T]
        simp [mL, mI, mAl, mN]
      · show H1[H.size]? = some (vp_cell _ _)
        rw [e1]; rfl
    rw [← hrho]
    exact kk p e s m args below meth c R Z C hQ H1 locs (cells + 1) (slots + n) LS ⟨⟨hf1, hf2, by show cells + 1 + b1 ≤ _; omega, by show slots + n + b2 ≤ _; omega⟩, hrel, m_S_new hS z1 o1, hLs⟩
  · refine va_newaK (atype := .byte) (N := n) hx hbc (hts _ m_arrY) rfl hd rfl hi hin (by show n * 1 ≤ _; omega) (by omega) (by omega) rfl fun H1 cA e1 z1 o1 hAr hNm => ?_
    have hcA : cA = gA G 5 := by
      have := (hK.1.2 5 _ rfl).2
      exact Option.some.inj (hNm.symm.trans this)
    subst hcA
    have hrel : mRel G (mAl h 105 n) H1 := by
      refine mRel_new hR (by omega) (e := .inl (gA G 5, n, .inl (fun _ => 0))) ?_ z1 o1 ?_
      · rw [mCell_byte mAl_T]
        simp [mL, mI, mAl, mN]
      · show H1[H.size]? = some (vp_cell _ _)
        rw [e1]; rfl
    rw [← hrho]
    exact kk p e s m args below meth c R Z C hQ H1 locs (cells + 1) (slots + n) LS ⟨⟨hf1, hf2, by show cells + 1 + b1 ≤ _; omega, by show slots + n + b2 ≤ _; omega⟩, hrel, m_S_new hS z1 o1, hLs⟩
theorem mw_anew {i : Int32} {n : Nat} {b1 b2 : Nat} {t idx : Nat} (hd : decode k.2.1 pc = .ok (.anewarray idx, 3)) (hp : pc + 3 = pc') (ht : t < 3) (hcl : ∀ q : vw_C, vwCl[mAc t]? = some q → Cond.classLink k.1.cls idx q.1 ∈ mTs) (hi : ¬ i < 0) (hin : i.toNatClampNeg = n) (hb8 : n * 8 ≤ 536870912) (hb : b = (b1 + 1, b2 + n)) (kk : mW G k d (b1, b2) pc' ls (.inr (some (mN h)) :: st) (mAl h (110 + t) n) Q) : mW G k d b pc ls (.inl i :: st) h Q := by
  subst hp
  subst hb
  intro p e s m args below meth c R Z C hQ H locs cells slots LS hA
  obtain ⟨hx, hbc, hr, hml, hown, hts, hlk, hnm, hK⟩ := id C
  obtain ⟨⟨hf1, hf2, hf3, hf4⟩, hR, hS, hLs⟩ := id hA
  dsimp only at hf3 hf4
  have hrho := m_rho_new (G := G) hR
  obtain ⟨q, hq, hty⟩ := m_tyC G ht
  have hc1 := hcl q hq
  have hc2 : va_AO q.1 s := by
    obtain ⟨o1, o2, o3⟩ := hK.2.2.2.2.2.2.2.2.2
    match t, ht, hq with
    | 0, _, hq => cases hq; exact o1
    | 1, _, hq => cases hq; exact o2
    | 2, _, hq => cases hq; exact o3
  subst hin
  refine W.anew hx hbc hown (hts _ hc1) (va_AO.use hc2) rfl hd rfl hi (by omega) (by omega) (by omega) fun cA kA comp f1 f2 f3 f4 => ?_
  generalize hH1 : H.push ({ cls := cA, slots := Array.replicate i.toNatClampNeg .null, vm := .none } : Cell) = H1
  have z1 : H1.size = H.size + 1 := by rw [← hH1, Array.size_push]
  have e1 : H1[H.size]? = some (arrV cA i.toNatClampNeg (fun _ => .null)) := by rw [← hH1, Array.getElem?_push_size, ← arrV_new]
  have o1 : ∀ q : Nat, q < H.size → H1[q]? = H[q]? := fun q hq => by rw [← hH1, Array.getElem?_push, if_neg (Nat.ne_of_lt hq)]
  have hcA : cA = gA G (2 + t) := by
    obtain ⟨_, _, _, _, _, h4⟩ := (hK.1.2 _ _ hty).2
    exact Option.some.inj (f1.symm.trans h4)
  subst hcA
  have hrel : mRel G (mAl h (110 + t) i.toNatClampNeg) H1 := by
    refine mRel_new hR (by omega) (e := .inl (gA G (2 + t), i.toNatClampNeg, .inr (.inr (.inr (.inr (fun _ => none)))))) ?_ z1 o1 ?_
    · rw [mCell_ref (t := t) mAl_T]
      simp [mL, mR, mAl, mN]
    · show H1[H.size]? = some (vp_cell _ _)
      rw [e1]; rfl
  rw [← hrho]
  exact kk p e s m args below meth c R Z C hQ H1 locs (cells + 1) (slots + i.toNatClampNeg) LS ⟨⟨hf1, hf2, by show cells + 1 + b1 ≤ _; omega, by show slots + i.toNatClampNeg + b2 ≤ _; omega⟩, hrel, m_S_new hS z1 o1, hLs⟩
theorem m_dflt {G : mG} {h : mH} {ci : Nat} {q : vw_C} (hc : vwCl[ci]? = some q) (hb : ∀ j, j < q.2.2 → mFr ci j = false → defaultValue (mTy ci j) = .int 0) (j : Nat) (hj : j < q.2.2) : defaultValue (mTy ci j) = vp_V (mFs G (mAl h (ci + 1) 0) (mN h) ci) j := by
  have hnf := m_nf hc
  unfold vp_V
  rw [List.getD_eq_getElem?_getD, mFs_at (by rw [hnf]; exact hj)]
  cases hf : mFr ci j with
  | true =>
    simp only [if_true, Option.getD_some]
    have hr : mR (mAl h (ci + 1) 0) (mN h) j = none := by simp [mR, mAl, mN]
    rw [hr]
    unfold mFr at hf
    cases ht : mTy ci j <;> rw [ht] at hf <;> first | rfl | cases hf
  | false =>
    have hi : mI (mAl h (ci + 1) 0) (mN h) j = 0 := by simp [mI, mAl, mN]
    simp [hi, hb j hj hf]
theorem mw_new {b1 b2 ci N idx : Nat} (hd : decode k.2.1 pc = .ok (.new idx, 3)) (hp : pc + 3 = pc') (hN : mNf ci = N) (hcl : ∃ q : vw_C, vwCl[ci]? = some q ∧ Cond.classLink k.1.cls idx q.1 ∈ mTs ∧ Cond.instantiable q.1 N ∈ mTs ∧ Cond.initialized q.1 ∈ mTs) (hdf : ∀ j, j < N → mFr ci j = false → defaultValue (mTy ci j) = .int 0) (hb : b = (b1 + 1, b2 + N)) (kk : mW G k d (b1, b2) pc' ls (.inr (some (mN h)) :: st) (mAl h (ci + 1) 0) Q) : mW G k d b pc ls st h Q := by
  subst hp
  subst hb
  intro p e s m args below meth c R Z C hQ H locs cells slots LS hA
  obtain ⟨hx, hbc, hr, hml, hown, hts, hlk, hnm, hK⟩ := id C
  obtain ⟨⟨hf1, hf2, hf3, hf4⟩, hR, hS, hLs⟩ := id hA
  dsimp only at hf3 hf4
  have hrho := m_rho_new (G := G) hR
  obtain ⟨q, hc, w1, w2, w3⟩ := hcl
  obtain ⟨C0, T0, N0⟩ := q
  have hnf : mNf ci = N0 := m_nf hc
  have hNN : N = N0 := hN.symm.trans hnf
  subst hNN
  have hcl := m_cls hc
  have hKn := hK.1.1 ci _ hc
  refine W.newcK hx hbc hown (hts _ w1) (hts _ w2) (hts _ w3) rfl hd (by omega) (by omega) hKn.2.1 rfl fun H1 kC hkC e1 z1 o1 => ?_
  have hrel : mRel G (mAl h (ci + 1) 0) H1 := by
    refine mRel_new hR (by omega) (e := .inr (ci, mFs G (mAl h (ci + 1) 0) (mN h) ci)) (mCell_obj mAl_T (by omega)) z1 o1 ?_
    exact ⟨_, hc, (u_born (mTy ci) hts (m_uws hc) hKn hkC e1 (m_ty hc)).to (m_dflt hc hdf)⟩
  rw [← hrho]
  exact kk p e s m args below meth c R Z C hQ H1 locs (cells + 1) (slots + N) LS ⟨⟨hf1, hf2, by show cells + 1 + b1 ≤ _; omega, by show slots + N + b2 ≤ _; omega⟩, hrel, m_S_new hS z1 o1, hLs⟩
end

/-! CALLS -/
theorem mWd_good {k : mM} {n : Nat} (h : mMk k n) : GoodIn mTs (mWd k) := by
  intro w hw
  rcases List.mem_cons.mp hw with rfl | hw
  · exact mTs_good _ h.1
  · exact mTs_good _ hw
theorem mPc_blind (G : mG) (av : List mV) (h : mH) : FrameBlind (mPc G av h) := fun a U g mk q => ⟨q.1, q.2.1, q.2.2.calling⟩
theorem mPc_in {G : mG} {av : List mV} {h : mH} {s : State} {H : Heap} {locs : List Loc} (hK : mK G s) (hR : mRel G h H) (hS : va_S (mA G) s.heap H locs) : ∀ U : State, U.heap = H → s.WarmedH U.vm → mPc G av h (av.map (mTr G)).toArray U := fun U hU hW => ⟨rfl, by rw [hU]; exact hR, hK.moved hW (by rw [hU]; exact hS.1) (fun q h1 h2 => by rw [hU]; exact hS.2.1 q h1 h2)⟩
section
variable {G : mG} {k : mM} {d : Nat} {b : Nat × Nat} {pc pc' : Nat} {ls : List (Option mV)} {st : List mV} {h : mH} {Q : Option mV → mH → Prop}
theorem m_after {k : mM} {b' b1 : Nat × Nat} {rest : List mV} {p : Program} {e : Env} {s : State} {m : MethodId} {args : Array Value} {below : List Frame} {meth : Method} {c : Code} {R : Room} {Z : State → Prop} (C : mCx G k p s m args meth c) (hQ : mRet G k Q p e R s m args below meth c Z) {H : Heap} {locs : List Loc} {cells slots : Nat} {LS : Array Slot} (hA : mAt G k d b s H locs cells slots LS R ls h) (hb : b'.1 + b1.1 ≤ b.1 ∧ b'.2 + b1.2 ≤ b.2) {st0 : List Value} {a : Array Value}
    (hr : va_Run p (gL G) e R s m args below meth c H locs cells slots b'.1 b'.2 (F0 m pc LS st0) (rest.map (mTr G)) (mQc G (fun r h' => mW G k d b1 (pc + 3) ls (r.toList ++ rest) h' Q) a) (mA G)) : W p (gL G) e R s m args below meth c H locs cells slots Z (F0 m pc LS st0) := by
  obtain ⟨⟨hf1, hf2, hf3, hf4⟩, hR, hS, hLs⟩ := id hA
  intro T hT X
  obtain ⟨v, st₀, t, T', L, h0, X', hL, e1, e2, ⟨⟨r, h', hv, hw, hrel⟩, hz, hk⟩, stp⟩ := hr T hT X
  have hv' : v = r.map (mTr G) := Outcome.returned.inj hv
  subst hv'
  rw [h0] at hz hk
  obtain ⟨t2, a1, b2⟩ := hw p e s m args below meth c R Z C hQ T'.heap (locs ++ L) (cells + b'.1) (slots + b'.2) LS ⟨⟨hf1, hf2, by omega, by omega⟩, by rw [e1]; exact hrel,
    ⟨Nat.le_trans hS.1 (by rw [e1]; exact hz), fun q h1 h2 => by rw [e1, hk q (Nat.lt_of_lt_of_le h1 hS.1) h2]; exact hS.2.1 q h1 h2, fun q hq => by
      rcases List.mem_append.mp hq with h | h
      · exact hS.2.2 q h
      · exact hL q h⟩, hLs⟩ T' rfl X'
  refine ⟨t2, stp t2 ?_, b2⟩
  have he : (r.toList ++ rest).map (mTr G) = (r.map (mTr G)).toList ++ rest.map (mTr G) := by cases r <;> rfl
  rw [he] at a1
  exact a1
theorem m_cat (G : mG) (l : List mV) (h : l.length ≤ 8) : ((l.map (mTr G)).map fun v => v.category).sum ≤ 8 := by
  have : ((l.map (mTr G)).map fun v => v.category).sum = l.length := by
    induction l with
    | nil => rfl
    | cons a t ih =>
      simp only [List.map_cons, List.sum_cons, List.length_cons, mTr_cat]
      have := ih (by simp at h; omega)
      omega
  omega
theorem m_rm {R : Room} {d n : Nat} {b : Nat × Nat} (h1 : d + 1 ≤ R.frames) (h2 : 64 * (d + 1) ≤ R.locals) (hn : n ≤ 40) : (mRm d b).frames + 1 ≤ R.frames ∧ 8 + (n + 11) + (mRm d b).locals ≤ R.locals := by
  refine ⟨h1, ?_⟩
  show 8 + (n + 11) + 64 * d ≤ R.locals
  omega
theorem mw_callS {k' : mM} {n idx : Nat} {b' b1 : Nat × Nat} {av rest : List mV} (hd : decode k.2.1 pc = .ok (.invokestatic idx, 3)) (hp : pc + 3 = pc') (hl : mLS k.1.cls idx k' n) (hn : av.length = n) (hst : st = av.reverse ++ rest) (hr8 : rest.length ≤ 8) (hb : b'.1 + b1.1 ≤ b.1 ∧ b'.2 + b1.2 ≤ b.2)
    (cc : mC G k' d b' av h (fun r h' => mW G k (d + 1) b1 pc' ls (r.toList ++ rest) h' Q)) : mW G k (d + 1) b pc ls st h Q := by
  subst hp
  subst hst
  intro p e s m args below meth c R Z C hQ H locs cells slots LS hA
  obtain ⟨hx, hbc, hr, hml, hown, hts, hlk, hnm, hK⟩ := id C
  obtain ⟨⟨hf1, hf2, hf3, hf4⟩, hR, hS, hLs⟩ := id hA
  obtain ⟨hm, hstt, hlk2⟩ := hl
  have hpre : PreS s H (mPc G av h) (av.map (mTr G)) := ⟨mPc_blind G av h, mPc_in hK hR hS⟩
  have hstk : ((av.reverse ++ rest).map (mTr G)) = (av.map (mTr G)).reverse ++ rest.map (mTr G) := by rw [List.map_append, List.map_reverse]
  have hroom := lv_room (m := m) (pc := pc) (ls := LS) (rest := (av.reverse ++ rest).map (mTr G)) (m_cat G rest hr8)
  refine m_after (rest := rest) C hQ hA hb ?_ (a := (av.map (mTr G)).toArray)
  rcases hlk2 with hlk2 | ⟨host, hlk2⟩
  · exact va_runS (cc := k.2.1) (nL := k.2.2.1) (Ts := mTs) (own := k.1.cls) ⟨hx, hbc, hml, hown, hts⟩ cc ⟨callB_of n hts (mWd_good hm) rfl rfl rfl (hts _ hm.2.1) (hts _ hlk2) hm.2.2.1 (m_rm hf1 hf2 hm.2.2.2), hts _ hstt⟩ hpre rfl (by simpa using hn) hLs.1 hstk hroom hd ⟨by omega, by omega⟩
  · exact va_runSN (cc := k.2.1) (nL := k.2.2.1) (Ts := mTs) (own := k.1.cls) ⟨hx, hbc, hml, hown, hts⟩ cc ⟨va_cnB n hts (mWd_good hm) rfl rfl rfl (hK.nest hlk2) (hts _ hm.2.1) hm.2.2.1 (m_rm hf1 hf2 hm.2.2.2), hts _ hstt, trivial⟩ hpre rfl (by simpa using hn) hLs.1 hstk hroom hd ⟨by omega, by omega⟩
theorem mw_callV {k' : mM} {n idx a ci : Nat} {b' b1 : Nat × Nat} {av rest : List mV} (hd : decode k.2.1 pc = .ok (.invokevirtual idx, 3)) (hp : pc + 3 = pc') (hl : mLV k.1.cls idx k' ci n) (hn : av.length = n) (hst : st = av.reverse ++ .inr (some a) :: rest) (hr8 : rest.length ≤ 8) (hb : b'.1 + b1.1 ≤ b.1 ∧ b'.2 + b1.2 ≤ b.2) (ha : mT h a = ci + 1)
    (cc : mC G k' d b' (.inr (some a) :: av) h (fun r h' => mW G k (d + 1) b1 pc' ls (r.toList ++ rest) h' Q)) : mW G k (d + 1) b pc ls st h Q := by
  subst hp
  subst hst
  intro p e s m args below meth c R Z C hQ H locs cells slots LS hA
  obtain ⟨hx, hbc, hr, hml, hown, hts, hlk, hnm, hK⟩ := id C
  obtain ⟨⟨hf1, hf2, hf3, hf4⟩, hR, hS, hLs⟩ := id hA
  obtain ⟨hm, hins, hsel, ⟨q, hc, hq⟩, hlk2⟩ := hl
  have hcl := m_cls hc
  obtain ⟨h1, h2, h3⟩ := hR.at ha (by omega)
  rw [mCell_obj ha (by omega)] at h3
  have hpre : PreV s H k'.1.cls (mRho G a) (mPc G (.inr (some a) :: av) h) (av.map (mTr G)) := ⟨mPc_blind G _ h, by rw [← hq]; exact va_recv hK.1 hR.2.2.1 hc h3, mPc_in hK hR hS⟩
  have hstk : ((av.reverse ++ .inr (some a) :: rest).map (mTr G)) = (av.map (mTr G)).reverse ++ .ref (mRho G a) :: rest.map (mTr G) := by rw [List.map_append, List.map_reverse]; rfl
  have hroom := lv_room (m := m) (pc := pc) (ls := LS) (rest := (av.reverse ++ .inr (some a) :: rest).map (mTr G)) (m_cat G rest hr8)
  refine m_after (rest := rest) C hQ hA hb ?_ (a := (Value.ref (mRho G a) :: av.map (mTr G)).toArray)
  rcases hlk2 with hlk2 | ⟨host, hlk2⟩
  · exact va_runV (cc := k.2.1) (nL := k.2.2.1) (Ts := mTs) (own := k.1.cls) ⟨hx, hbc, hml, hown, hts⟩ cc ⟨callB_of n hts (mWd_good hm) rfl rfl rfl (hts _ hm.2.1) (hts _ hlk2) hm.2.2.1 (m_rm hf1 hf2 hm.2.2.2), hts _ hins, hts _ hsel⟩ hpre rfl (by simpa using hn) hLs.1 hstk hroom hd ⟨by omega, by omega⟩
  · exact va_runVN (cc := k.2.1) (nL := k.2.2.1) (Ts := mTs) (own := k.1.cls) ⟨hx, hbc, hml, hown, hts⟩ cc ⟨va_cnB n hts (mWd_good hm) rfl rfl rfl (hK.nest hlk2) (hts _ hm.2.1) hm.2.2.1 (m_rm hf1 hf2 hm.2.2.2), hts _ hins, hts _ hsel⟩ hpre rfl (by simpa using hn) hLs.1 hstk hroom hd ⟨by omega, by omega⟩
theorem mw_callI {k' : mM} {n idx a : Nat} {b' b1 : Nat × Nat} {av rest : List mV} (hd : decode k.2.1 pc = .ok (.invokespecial idx, 3)) (hp : pc + 3 = pc') (hl : mLI k.1.cls idx k' n) (hn : av.length = n) (hst : st = av.reverse ++ .inr (some a) :: rest) (hr8 : rest.length ≤ 8) (hb : b'.1 + b1.1 ≤ b.1 ∧ b'.2 + b1.2 ≤ b.2)
    (cc : mC G k' d b' (.inr (some a) :: av) h (fun r h' => mW G k (d + 1) b1 pc' ls (r.toList ++ rest) h' Q)) : mW G k (d + 1) b pc ls st h Q := by
  subst hp
  subst hst
  intro p e s m args below meth c R Z C hQ H locs cells slots LS hA
  obtain ⟨hx, hbc, hr, hml, hown, hts, hlk, hnm, hK⟩ := id C
  obtain ⟨⟨hf1, hf2, hf3, hf4⟩, hR, hS, hLs⟩ := id hA
  obtain ⟨hm, ⟨hini, hret⟩, hins, hlk2⟩ := hl
  have hpre : PreS s H (mPc G (.inr (some a) :: av) h) (.ref (mRho G a) :: av.map (mTr G)) := ⟨mPc_blind G _ h, mPc_in hK hR hS⟩
  have hstk : ((av.reverse ++ .inr (some a) :: rest).map (mTr G)) = (av.map (mTr G)).reverse ++ .ref (mRho G a) :: rest.map (mTr G) := by rw [List.map_append, List.map_reverse]; rfl
  have hroom := lv_room (m := m) (pc := pc) (ls := LS) (rest := (av.reverse ++ .inr (some a) :: rest).map (mTr G)) (m_cat G rest hr8)
  refine m_after (rest := rest) C hQ hA hb ?_ (a := (Value.ref (mRho G a) :: av.map (mTr G)).toArray)
  have hwd : mWd k' = Cond.code k'.1 k'.2.1 k'.2.2.1 none :: mTs := by unfold mWd; rw [hret]
  rcases hlk2 with hlk2 | ⟨host, hlk2⟩
  · exact va_runI (cc := k.2.1) (nL := k.2.2.1) (Ts := mTs) (own := k.1.cls) ⟨hx, hbc, hml, hown, hts⟩ cc ⟨callB_of n hts (mWd_good hm) hwd rfl rfl (hts _ hm.2.1) (hts _ hlk2) hm.2.2.1 (m_rm hf1 hf2 hm.2.2.2), hini, hts _ hins⟩ hpre rfl (by simpa using hn) hLs.1 hstk hroom hd ⟨by omega, by omega⟩
  · exact va_runIN (cc := k.2.1) (nL := k.2.2.1) (Ts := mTs) (own := k.1.cls) ⟨hx, hbc, hml, hown, hts⟩ cc ⟨va_cnB n hts (mWd_good hm) hwd rfl rfl (hK.nest hlk2) (hts _ hm.2.1) hm.2.2.1 (m_rm hf1 hf2 hm.2.2.2), hini, hts _ hins⟩ hpre rfl (by simpa using hn) hLs.1 hstk hroom hd ⟨by omega, by omega⟩
theorem mw_objInit {idx a : Nat} (hd : decode k.2.1 pc = .ok (.invokespecial idx, 3)) (hp : pc + 3 = pc') (hl : Cond.methodLink k.1.cls idx objectInit ∈ mTs ∧ Cond.instanceMethod objectInit ∈ mTs ∧ Cond.code objectInit ⟨#[0xb1]⟩ 1 none ∈ mTs) (hr8 : st.length ≤ 8) (kk : mW G k (d + 1) b pc' ls st h Q) : mW G k (d + 1) b pc ls (.inr (some a) :: st) h Q := by
  subst hp
  intro p e s m args below meth c R Z C hQ H locs cells slots LS hA
  obtain ⟨hx, hbc, hr, hml, hown, hts, hlk, hnm, hK⟩ := id C
  obtain ⟨⟨hf1, hf2, hf3, hf4⟩, hR, hS, hLs⟩ := id hA
  have hroom := lv_room (m := m) (pc := pc) (ls := LS) (rest := (.inr (some a) :: st).map (mTr G)) (m_cat G st hr8)
  exact W.objInit hx hbc hown (hts _ hl.1) (hts _ hl.2.1) (hts _ hl.2.2) (a := mRho G a) rfl (hLs.1.trans hml.symm) rfl hd (by omega) (by omega) (kk p e s m args below meth c R Z C hQ _ _ _ _ _ hA)
/-! constants of the launch -/
theorem mw_getsC {idx i : Nat} {host : String} (hd : decode k.2.1 pc = .ok (.getstatic idx, 3)) (hp : pc + 3 = pc') (hl : (i = 1 ∧ Cond.fieldLinkNest k.1.cls idx RX11 "STEP_X" "[I" host ∈ mTn) ∨ (i = 2 ∧ Cond.fieldLinkNest k.1.cls idx RX11 "STEP_Y" "[I" host ∈ mTn)) (kk : mW G k d b pc' ls (.inr (some i) :: st) h Q) : mW G k d b pc ls st h Q := by
  subst hp
  intro p e s m args below meth c R Z C hQ H locs cells slots LS hA
  obtain ⟨hx, hbc, hr, hml, hown, hts, hlk, hnm, hK⟩ := id C
  obtain ⟨⟨hf1, hf2, hf3, hf4⟩, hR, hS, hLs⟩ := id hA
  rcases hl with ⟨rfl, hl⟩ | ⟨rfl, hl⟩
  · exact va_getsN hx hbc hK.2.2.2.1.2 hS hown (va_Nw.use rfl (hK.nest hl)) (fun _ z => z) hd (kk p e s m args below meth c R Z C hQ _ _ _ _ _ hA)
  · exact va_getsN hx hbc hK.2.2.2.2.1.2 hS hown (va_Nw.use rfl (hK.nest hl)) (fun _ z => z) hd (kk p e s m args below meth c R Z C hQ _ _ _ _ _ hA)
theorem mw_stepX {i : Int32} (hd : decode k.2.1 pc = .ok (.iaload, 1)) (hp : pc + 1 = pc') (hi : vp_in i 4) (kk : mW G k d b pc' ls (.inl (mStX i.toNatClampNeg) :: st) h Q) : mW G k d b pc ls (.inl i :: .inr (some 1) :: st) h Q := by
  subst hp
  intro p e s m args below meth c R Z C hQ H locs cells slots LS hA
  obtain ⟨hx, hbc, hr, hml, hown, hts, hlk, hnm, hK⟩ := id C
  obtain ⟨⟨hf1, hf2, hf3, hf4⟩, hR, hS, hLs⟩ := id hA
  exact va_ti hx hbc hK.2.2.2.1.1 hS hi rfl hd (kk p e s m args below meth c R Z C hQ _ _ _ _ _ hA)
theorem mw_stepY {i : Int32} (hd : decode k.2.1 pc = .ok (.iaload, 1)) (hp : pc + 1 = pc') (hi : vp_in i 4) (kk : mW G k d b pc' ls (.inl (mStY i.toNatClampNeg) :: st) h Q) : mW G k d b pc ls (.inl i :: .inr (some 2) :: st) h Q := by
  subst hp
  intro p e s m args below meth c R Z C hQ H locs cells slots LS hA
  obtain ⟨hx, hbc, hr, hml, hown, hts, hlk, hnm, hK⟩ := id C
  obtain ⟨⟨hf1, hf2, hf3, hf4⟩, hR, hS, hLs⟩ := id hA
  exact va_ti hx hbc hK.2.2.2.2.1.1 hS hi rfl hd (kk p e s m args below meth c R Z C hQ _ _ _ _ _ hA)
theorem mw_sld {i : Int32} (hd : decode k.2.1 pc = .ok (.iaload, 1)) (hp : pc + 1 = pc') (hi : vp_in i (gN G)) (kk : mW G k d b pc' ls (.inl (gX G i.toNatClampNeg) :: st) h Q) : mW G k d b pc ls (.inl i :: .inr (some 0) :: st) h Q := by
  subst hp
  intro p e s m args below meth c R Z C hQ H locs cells slots LS hA
  obtain ⟨hx, hbc, hr, hml, hown, hts, hlk, hnm, hK⟩ := id C
  obtain ⟨⟨hf1, hf2, hf3, hf4⟩, hR, hS, hLs⟩ := id hA
  have hb2 := hK.2.2.1.2
  exact va_sld hx hbc hK.2.2.1.1 (Nat.lt_of_lt_of_le hb2 hK.2.1) (Nat.not_le.mpr hb2) hS hi hd (kk p e s m args below meth c R Z C hQ _ _ _ _ _ hA)
theorem mw_slen (hd : decode k.2.1 pc = .ok (.arraylength, 1)) (hp : pc + 1 = pc') (kk : mW G k d b pc' ls (.inl (nI (gN G)) :: st) h Q) : mW G k d b pc ls (.inr (some 0) :: st) h Q := by
  subst hp
  intro p e s m args below meth c R Z C hQ H locs cells slots LS hA
  obtain ⟨hx, hbc, hr, hml, hown, hts, hlk, hnm, hK⟩ := id C
  obtain ⟨⟨hf1, hf2, hf3, hf4⟩, hR, hS, hLs⟩ := id hA
  have hb2 := hK.2.2.1.2
  exact va_slen hx hbc hK.2.2.1.1 (Nat.lt_of_lt_of_le hb2 hK.2.1) (Nat.not_le.mpr hb2) hS hd (kk p e s m args below meth c R Z C hQ _ _ _ _ _ hA)
end

