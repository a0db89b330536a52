/-! THE CLAIM OUT OF ONE WALK OF THE LAW'S BODY. Your part is whole_start (and what it stands on); all else here is the same for every law, but numbers. -/
def R_law : String := "FogIslandLaw"
def lw_P (b : Addr) (xs : List Int32) (args : Array Value) (s : State) : Prop := args = #[.ref b] ∧ s.IntsAt b xs ∧ xs.length ≤ 3584 ∧ (Jvm.Cond.and given_1 narrow_1).before args s = true
def lw_Q (_ : Array Value) (s : State) (o : Outcome) (t : State) : Prop := o = .returned (some (.int 1)) ∧ Framed s o t [] 600000 7302250
def lw_Z (below : List Frame) (a : Array Value) (s : State) : State → Prop := fun t => ∃ o, t.status = .running ∧ Ended t below o ∧ lw_Q a s o t
/-- the law's own end, with 1 on the stack, nothing written that was there before, its room as the claim has it -/
theorem lw_ret {p : Program} {l : Launch} {e : Env} {s : State} {m : MethodId} {below : List Frame} {meth : Method} {c : Code} {b : Nat} (hx : p.tables.exec = Jvm.exec) (hb : c.code = code) (hr : meth.sig.returnType = ret) (hlocks : meth.locks = false) {pc : Nat} {H : Heap} {ls : Array Slot} (hdg : decode code pc = .ok (.ireturn, 1)) : W p l e room_1 s m #[Value.ref b] below meth c H [] 600000 7302250 (lw_Z below #[Value.ref b] s) (F0 m pc ls [.int 1]) := by
  intro T hT X
  obtain ⟨fs, hret, hrun, hended, hW, hframe⟩ := X.leave (v := some (.int 1)) (hlocks := hlocks) (fun h => by rw [hr] at h; cases h)
  have hmeth' : T.vm.method? m = some meth := X.method'
  refine ⟨T.setFrames fs, ?_, .returned (some (.int 1)), hrun, hended, rfl, ⟨_, rfl⟩, hW, hframe⟩
  jvm_step X.here [X.here.top, hx, hb, hdg, hmeth', hr, ret, narrow_b1]
  (try refine ⟨rfl, ?_⟩); (try refine ⟨rfl, ?_⟩)
  first | (intro acts; rw [hret _ acts rfl rfl rfl]) | rw [hret _ _ rfl rfl rfl]
  exact Steps.refl _
/-- what holds at the law's entry: the machine, the code, the tables' words (any of lw_tbl by 'hts w (by decide +kernel)'), the script of L ints xs at the cell b, what the Statement gives of the start (any of its parts by flat_of_before) -/
def lw_At (p : Program) (s : State) (m : MethodId) (meth : Method) (c : Code) (b L : Nat) (xs : Nat → Int32) : Prop :=
  p.tables.exec = Jvm.exec ∧ c.code = code ∧ meth.sig.returnType = ret ∧ c.maxLocals = 4 ∧ s.vm.findClass R_law = some m.cls ∧ (∀ w ∈ lw_tbl, w.before #[Value.ref b] s = true) ∧ va_X b L xs s s.heap ∧ b < s.heap.size ∧ meth.locks = false ∧ (Jvm.Cond.and given_1 narrow_1).before #[Value.ref b] s = true
-- ===== YOUR PART BEGINS =====
/-- the heap of ids at the law's entry -/
def m_h0 : mH := (8, fun _ => 0, fun _ => 0, fun _ _ => 0, fun _ _ => none)
theorem m_inst : ∀ q ∈ vwCl, Cond.instantiable q.1 q.2.2 ∈ lw_tbl ∧ ∀ w ∈ u_ws q.1 q.2.1 q.2.2, w ∈ lw_tbl := by
  set_option maxRecDepth 100000 in decide +kernel
theorem m_tsIn {w : Cond} (h : w ∈ mTs) : w ∈ lw_tbl := (List.mem_filter.mp h).1
theorem m_rel0 (G : mG) {H : Heap} (h : gB G = H.size) (gid : ∀ k, 8 ≤ k → gC G k = gB G + (k - 8)) : mRel G m_h0 H := by
  refine ⟨by rw [h]; rfl, Nat.le_refl 8, fun k q hq => ?_, fun a ha => absurd rfl ha, gOk.id (Nat.le_refl 8) gid⟩
  have : mWs G m_h0 = [] := rfl
  rw [this] at hq
  simp at hq
theorem m_arrT {s : State} {args : Array Value} {ty : FieldType} (h : (Cond.arrayClass ty).before args s = true) : ∃ cA : ClassId, ArrOfT s cA ty ∧ s.vm.findClass ("[" ++ ty.toString) = some cA := by
  obtain ⟨c, k, comp, h1, h2, h3⟩ := Cond.arrayClass_spec h
  exact ⟨c, fun n z => ⟨fun q h => (by cases h), k, h2, comp, h3⟩, h1⟩
theorem m_arrO {s : State} {args : Array Value} {C : String} (h : (Cond.arrayOver (.object C)).before args s = true) : ∃ cA : ClassId, ArrOfT s cA (.object C) ∧ va_RA s cA (.object C) := by
  obtain ⟨comp, c, k, h1, h2, h3, h4, h5⟩ := Cond.arrayOver_spec h
  exact ⟨c, fun n z => ⟨fun q h => (by cases h), k, h3, comp, h4⟩, k, comp, h3, h4, h1, h5⟩
set_option maxRecDepth 100000 in
theorem m_w1 : Cond.laysStatic RX11 "STEP_X" "[I" ∈ lw_tbl ∧ Cond.laysStatic RX11 "STEP_Y" "[I" ∈ lw_tbl ∧ Cond.initialized RX11 ∈ lw_tbl ∧ Cond.laysStatic "java/lang/String" "COMPACT_STRINGS" "Z" ∈ lw_tbl ∧ Cond.initialized "java/lang/String" ∈ lw_tbl ∧ Cond.stringRef RX4 96 "bkshqdurn" ∈ lw_tbl := by decide +kernel
set_option maxRecDepth 100000 in
theorem m_w2 : Cond.arrayOver (.object RX1) ∈ lw_tbl ∧ Cond.arrayOver (.object RX5) ∈ lw_tbl ∧ Cond.arrayOver (.object RX7) ∈ lw_tbl := by decide +kernel
theorem m_elem4 {P : Nat → Prop} (h0 : P 0) (h1 : P 1) (h2 : P 2) (h3 : P 3) : ∀ j, j < 4 → P j := by
  intro j hj
  match j, hj with
  | 0, _ => exact h0
  | 1, _ => exact h1
  | 2, _ => exact h2
  | 3, _ => exact h3
theorem m_one {P : Nat → Prop} (h : P 0) : ∀ i, i < 1 → P i := by
  intro i hi
  have e : i = 0 := by omega
  subst e
  exact h
set_option maxHeartbeats 8000000 in
set_option maxRecDepth 100000 in
/-- what the launch gives -/
theorem m_launch {p : Program} {s : State} {m : MethodId} {meth : Method} {c : Code} (l : Launch) {b L : Nat} {xs : Nat → Int32} (C0 : lw_At p s m meth c b L xs) : ∃ G : mG, gL G = l ∧ gN G = L ∧ gX G = xs ∧ gB G = s.heap.size ∧ gC G 0 = b ∧ mK G s ∧ ∀ k, 8 ≤ k → gC G k = gB G + (k - 8) := by
  obtain ⟨hx, hb, hr, hml, hown, hts, hX, hbl, hlocks, hgv⟩ := id C0
  have hfl := flat_of_before _ hgv
  have hAno : ∀ a : Nat, a < s.heap.size → ¬ (fun q : Nat => s.heap.size ≤ q) a := fun a h => Nat.not_le.mpr h
  -- classes
  have hcls : ∀ k : Nat, ∃ r : ClassId × (Nat → Nat), ∀ q : vw_C, vwCl[k]? = some q → u_Kn s q.1 q.2.1 q.2.2 r.1 r.2 := by
    intro k
    cases hk : vwCl[k]? with
    | none => exact ⟨(m.cls, fun _ => 0), fun q hq => by cases hq⟩
    | some q =>
      obtain ⟨h1, h2⟩ := m_inst q (List.mem_of_getElem? hk)
      obtain ⟨cC, iS, h3⟩ := u_known hts h2 (hts _ h1)
      exact ⟨(cC, iS), fun q' hq' => by cases hq'; exact h3⟩
  obtain ⟨F, hF⟩ := Classical.axiomOfChoice hcls
  obtain ⟨cI, hI1, hI2⟩ := m_arrT (hts _ (m_tsIn m_arrI))
  obtain ⟨cZ, hZ1, hZ2⟩ := m_arrT (hts _ (m_tsIn m_arrZ))
  obtain ⟨cY, hY1, hY2⟩ := m_arrT (hts _ (m_tsIn m_arrY))
  obtain ⟨c1, h11, h12⟩ := m_arrO (hts _ m_w2.1)
  obtain ⟨c5, h51, h52⟩ := m_arrO (hts _ m_w2.2.1)
  obtain ⟨c7, h71, h72⟩ := m_arrO (hts _ m_w2.2.2)
  obtain ⟨tX, htX, hTX⟩ := va_Tof (N := 4) (f := fun j => .int (mStX j)) (tm := .static RX11 "STEP_X" "[I") (ty := .int) (A := fun q : Nat => s.heap.size ≤ q) (by decide) (hfl _ (by decide +kernel)) (va_eqt (hfl _ (by decide +kernel))) (m_elem4 (va_eqt (hfl _ (by decide +kernel))) (va_eqt (hfl _ (by decide +kernel))) (va_eqt (hfl _ (by decide +kernel))) (va_eqt (hfl _ (by decide +kernel)))) hAno
  obtain ⟨tY, htY, hTY⟩ := va_Tof (N := 4) (f := fun j => .int (mStY j)) (tm := .static RX11 "STEP_Y" "[I") (ty := .int) (A := fun q : Nat => s.heap.size ≤ q) (by decide) (hfl _ (by decide +kernel)) (va_eqt (hfl _ (by decide +kernel))) (m_elem4 (va_eqt (hfl _ (by decide +kernel))) (va_eqt (hfl _ (by decide +kernel))) (va_eqt (hfl _ (by decide +kernel))) (va_eqt (hfl _ (by decide +kernel)))) hAno
  have hZX := va_Zof (A := fun q : Nat => s.heap.size ≤ q) (hts _ m_w1.1) (hts _ m_w1.2.2.1) htX hAno
  have hZY := va_Zof (A := fun q : Nat => s.heap.size ≤ q) (hts _ m_w1.2.1) (hts _ m_w1.2.2.1) htY hAno
  have hZC := va_Zof (A := fun q : Nat => s.heap.size ≤ q) (C := "java/lang/String") (n := "COMPACT_STRINGS") (d := "Z") (v := .int 1) (hts _ m_w1.2.2.2.1) (hts _ m_w1.2.2.2.2.1) (va_eqt (hfl _ (by decide +kernel))) hAno
  have one : ∀ {P : Nat → Prop}, P 0 → ∀ i, i < 1 → P i := @m_one
  obtain ⟨adK, adV, hSt, hSe⟩ := vk_Sof (args := #[Value.ref b]) (N := 1) (tm := fun _ => .string RX4 96) (len := [9]) (byt := mBy) (A := fun q : Nat => s.heap.size ≤ q) (one (by decide)) (one (hfl _ (by decide +kernel))) (one (hfl _ (by decide +kernel))) (one (hfl _ (by decide +kernel))) (one (hfl _ (by decide +kernel)))
    (one (fun j hj => by
      have hj9 : j < 9 := hj
      match j, hj9 with
      | 0, _ => exact hfl _ (by decide +kernel)
      | 1, _ => exact hfl _ (by decide +kernel)
      | 2, _ => exact hfl _ (by decide +kernel)
      | 3, _ => exact hfl _ (by decide +kernel)
      | 4, _ => exact hfl _ (by decide +kernel)
      | 5, _ => exact hfl _ (by decide +kernel)
      | 6, _ => exact hfl _ (by decide +kernel)
      | 7, _ => exact hfl _ (by decide +kernel)
      | 8, _ => exact hfl _ (by decide +kernel)
      | n + 9, h => omega)) (fun i j hi hj hij => absurd (by omega) hij) hAno
  let G : mG := ((fun k => (F k).1, fun k => (F k).2), (fun k => if k = 0 then cI else if k = 1 then cZ else if k = 2 then c1 else if k = 3 then c5 else if k = 4 then c7 else cY), s.heap.size, (fun k => if k = 0 then b else if k = 1 then tX else if k = 2 then tY else if k = 3 then adK 0 else if k < 8 then adV 0 else s.heap.size + (k - 8)), l, L, xs)
  refine ⟨G, rfl, rfl, rfl, rfl, rfl, ?_, fun k hk => ?_⟩
  rotate_left
  · show (if k = 0 then b else if k = 1 then tX else if k = 2 then tY else if k = 3 then adK 0 else if k < 8 then adV 0 else s.heap.size + (k - 8)) = s.heap.size + (k - 8)
    rw [if_neg (by omega), if_neg (by omega), if_neg (by omega), if_neg (by omega), if_neg (by omega)]
  have hSt' : vk_S 1 [9] mBy (fun _ => adK 0) (fun _ => adV 0) (fun q : Nat => s.heap.size ≤ q) s s.heap := ⟨one (hSt.1 0 (by omega)), fun i j hi hj _ => by omega⟩
  refine ⟨⟨fun k q hq => hF k q hq, fun k q hq => ?_⟩, Nat.le_refl _, ⟨hX, hbl⟩, ⟨hTX, hZX⟩, ⟨hTY, hZY⟩, hSt', vk_R.of (hts _ m_w1.2.2.2.2.2) (hSe 0 (by omega)), hZC, fun w hw => ?_, va_AO.of (hts _ m_w2.1), va_AO.of (hts _ m_w2.2.1), va_AO.of (hts _ m_w2.2.2)⟩
  · match k, hq with
    | 0, hq => cases hq; exact ⟨hI1, hI2⟩
    | 1, hq => cases hq; exact ⟨hZ1, hZ2⟩
    | 2, hq => cases hq; exact ⟨h11, h12⟩
    | 3, hq => cases hq; exact ⟨h51, h52⟩
    | 4, hq => cases hq; exact ⟨h71, h72⟩
    | 5, hq => cases hq; exact ⟨hY1, hY2⟩
    | n + 6, hq => simp [mTys] at hq
  · have h1 := hts w (List.mem_filter.mp hw).1
    have h2 := (List.mem_filter.mp hw).2
    cases w <;> first | exact va_Nw.of rfl h1 | cases h2
theorem m_retL {G : mG} {p : Program} {e : Env} {s : State} {m : MethodId} {below : List Frame} {meth : Method} {c : Code} {b : Nat} (hgb : gB G = s.heap.size) (C : mCx G kL_law p s m #[Value.ref b] meth c) : mRet G kL_law (fun r _ => r = some (.inl 1)) p e room_1 s m #[Value.ref b] below meth c (lw_Z below #[Value.ref b] s) := by
  obtain ⟨hx, hb, hr, hml, hown, hts, hlk, hnm, hK⟩ := C
  intro pc LS H locs cells slots r h' hk hq hR hS h1 h2
  subst hq
  refine va_forget (fun q hq => by rw [← hgb]; exact hS.2.2 q hq) ?_
  refine W.widen (k := 600000) (n := 7302250) h1 h2 ?_
  exact lw_ret hx hb hr hlk hk.1
/-- YOUR PART -/
theorem whole_start {p : Program} {e : Env} {s : State} {m : MethodId} {below : List Frame} {meth : Method} {c : Code} (l : Launch) {b L : Nat} {xs : Nat → Int32} (hL : L ≤ 3584) (C0 : lw_At p s m meth c b L xs) : W p l e room_1 s m #[Value.ref b] below meth c s.heap [] 0 0 (lw_Z below #[Value.ref b] s) (entryFrame m ([Value.ref b] : List Value).toArray 4) := by
  obtain ⟨hx, hb, hr, hml, hown, hts, hX, hbl, hlocks, hgv⟩ := id C0
  obtain ⟨G, e1, e2, e3, e4, e5, hK, gid⟩ := m_launch l C0
  have C : mCx G kL_law p s m #[Value.ref b] meth c := ⟨hx, hb, hr, hml, hown, fun w hw => hts w (m_tsIn hw), hlocks, fun z => absurd z (by decide), hK⟩
  have hb0 : Value.ref b = mTr G (.inr (some 0)) := by rw [← e5]; rfl
  have hent : mLoc G ((lg_sl ([.inr (some 0)].map (mTr G)) ++ List.replicate (4 - (lg_sl ([.inr (some 0)].map (mTr G))).length) Slot.unset).toArray) 4 (mEnt 4 [.inr (some 0)]) := m_entry (by decide)
  have key := m_law (G := G) (by rw [e2]; exact hL) gid p e s m #[Value.ref b] below meth c room_1 (lw_Z below #[Value.ref b] s) C (m_retL e4 C) s.heap [] 0 0 _ ⟨⟨by decide, by decide, by decide, by decide⟩, m_rel0 G e4 gid, va_S.rf, hent⟩
  rw [lg_entry_eq]
  rw [e1] at key
  rw [show lg_sl ([Value.ref b] : List Value) = lg_sl ([.inr (some 0)].map (mTr G)) by rw [hb0]; rfl]
  exact key
-- ===== YOUR PART ENDS =====
set_option maxHeartbeats 4000000 in
theorem lw_walk (l : Launch) (b : Addr) (xs : List Int32) : MetFree l x (headSpec (Jvm.Cond.code x code maxLocals ret :: tables_1) room_1) (lw_P b xs) (fun _ _ _ _ _ => True) lw_Q := by
  refine MetFree.of_bodyS (code := code) (maxLocals := maxLocals) (ret := ret) (by decide) ?_ ?_
  · intro args s m h hn
    obtain ⟨meth, c, h1, h2, h3, h4, h5, h6, -, -⟩ := Cond.code_spec hn (atoms_spec (ws := Jvm.Cond.code x code maxLocals ret :: tables_1) h _ List.mem_cons_self)
    exact ⟨meth, c, h1, h2, h3, h4, h5, h6⟩
  · intro p e s m args below meth c s₁ B hml0 hP _
    obtain ⟨rfl, hx, hbd, hgv⟩ := hP
    obtain ⟨scr, harrAt, hlist, hof, hsmall⟩ := hx
    obtain ⟨hcb, hkn, -, -⟩ := State.arrayAt?_spec harrAt
    have hown : s.vm.findClass R_law = some m.cls := findClass_of_methodNamed B.named
    have hts0 : ∀ c ∈ (Jvm.Cond.code x code maxLocals ret :: tables_1), c.before #[Value.ref b] s = true := atoms_spec (ws := Jvm.Cond.code x code maxLocals ret :: tables_1) B.pre
    have hts : ∀ w ∈ lw_tbl, w.before #[Value.ref b] s = true := k2_hts_sels lw_privs (fun w hw => hts0 w (List.mem_cons_of_mem _ hw)) lw_privs_ok
    have hml : c.maxLocals = 4 := B.maxLocals_eq (hts0 _ List.mem_cons_self)
    have X₀ : Stand p l e room_1 s m #[Value.ref b] below meth c s₁ [] 0 0 := Stand.of_body B
    have hh0 : s₁.heap = s.heap := by rw [B.state]; rfl
    have hsz : scr.slots.size = xs.length := by rw [← Array.length_toList, hlist, List.length_map]
    have hval : ∀ j : Nat, j < xs.length → scr.slots[j]? = some (.int (xs.getD j 0)) := fun j hj => by
      rw [← Array.getElem?_toList, hlist]
      simp [hj]
    have hbl : b < s.heap.size := (Array.getElem?_eq_some_iff.mp hcb).1
    have hX : va_X b xs.length (fun j => xs.getD j 0) s s.heap := ⟨scr, hcb, hof, hkn, hsz, hval⟩
    have K : W p l e room_1 s m #[Value.ref b] below meth c s₁.heap [] 0 0 (lw_Z below #[Value.ref b] s) (entryFrame m ([Value.ref b] : List Value).toArray 4) := by
      rw [hh0]
      exact whole_start l hbd ⟨B.exec, B.bytes, B.returns, hml, hown, hts, hX, hbl, B.notSynchronized, hgv⟩
    obtain ⟨t, a1, o, b1, b2, b3⟩ := K s₁ rfl X₀
    exact ⟨t, o, a1, b1, b2, b3⟩
theorem lw_pre_spec {args : Array Value} {s : State} (h : (Jvm.Cond.and given_1 narrow_1).before args s = true) (hr : rest_1_c.before args s = true) : ∃ (b : Addr) (xs : List Int32), lw_P b xs args s := by
  have hs := flat_of_before _ h
  have hq := flat_of_before _ hr
  have hc : (Cond.count 1).before args s = true := hs _ (by decide +kernel)
  have harr : (Cond.arrayOf (.arg 0) .int).before args s = true := hs _ (by decide +kernel)
  have hle : (Cond.le (.length (.arg 0)) (.int 3584)).before args s = true := hs _ (by decide +kernel)
  have hlen : (Cond.isInt (.length (.arg 0))).before args s = true := hq _ (by decide +kernel)
  have hall : (Cond.all (.arg 0) (.isInt (.elem (.arg 0) (.index 0)))).before args s = true := hq _ (by decide +kernel)
  obtain ⟨b, xs, hb, hx⟩ := State.ints_of_pre rfl harr hlen hall
  have hsm : xs.length < 2 ^ 31 := hx.choose_spec.2.2.2
  have hev : (Term.length (.arg 0)).eval args s none [] s = some (.int xs.length.toInt32) := hx.length_eval hb
  have hv := Cond.le_ints hev (show (Term.int 3584).eval args s none [] s = some (.int 3584) from rfl)
  have hd : xs.length.toInt32 ≤ 3584 := by
    simpa [Cond.before, Cond.holds, hv] using hle
  have hN : xs.length ≤ 3584 := (Int32.ofNat_le_ofNat hsm (by decide)).mp (show Int32.ofNat xs.length ≤ Int32.ofNat 3584 from hd)
  exact ⟨b, xs, Cond.one_arg hc (show args[0]? = some (.ref b) from hb), hx, hN, h⟩
theorem lw_comes (l : Launch) : Comes l x (Jvm.Cond.code x code maxLocals ret :: tables_1) room_1 (fun tb e args s => Calls_1 tb e args s ∧ rest_1 tb e args s ∧ Pre_1 tb e args s)
    (fun _ _ args s o t => lw_Q args s o t) := by
  intro p e ha hc hk s m args below hf hfit hheap happ hpre
  obtain ⟨b, xs, hP⟩ := lw_pre_spec hpre.2.2 hpre.2.1
  obtain ⟨k, o, h1, h2, h3, hQ⟩ := lw_walk l b xs p e ha hc hk s m args below hf ((Spec.applies_iff_loose hf).mp happ).1 hP trivial
  exact ⟨k, o, h1, h2, h3, hQ⟩
theorem lw_frame {s t : State} {o : Outcome} {args : Array Value} (h : Framed s o t [] 600000 7302250) :
    Framed s o t (fieldLocs frame_1_writes args s ++ arrayLocs frame_1_arrays args s ++ staticLocs frame_1_statics s) 600000 7302250 := h
theorem lw_limb (L : Cond) (hL : ∀ (args : Array Value) (s t : State), L.after args s (.returned (some (.int 1))) t = true) :
    ArmFor flags0 classFile x code maxLocals ret World_1 tables_1 room_1 Calls_1 rest_1 Pre_1
      (fun tb e a s o t => postC L tb e a s o t ∧ Framed s o t (fieldLocs frame_1_writes a s ++ arrayLocs frame_1_arrays a s ++ staticLocs frame_1_statics s) 600000 7302250) := by
  intro l _ _ _ p e ha hc hk s m args below hf hfit hheap happ hpre
  obtain ⟨k, o, h1, h2, h3, rfl, hF⟩ := lw_comes l p e ha hc hk s m args below hf hfit hheap happ hpre
  exact ⟨k, _, h1, h2, h3, hL args s _, lw_frame hF⟩
theorem i_vc : Claimed_1_1 ∧ Claimed_1_2 := ⟨lw_limb limb_1_1 (fun args s t => by simp [limb_1_1, Cond.after, Cond.holds, Cond.value]), lw_limb limb_1_2 (fun args s t => Cond.after_iff.mpr (by
  first | (rw [show limb_1_2 = Cond.eq .result (.int 1) from rfl, Cond.eq_ints (x := 1) (y := 1) rfl rfl]; simp; done) | (simp [limb_1_2, Cond.value, Term.eval]; done)))⟩
