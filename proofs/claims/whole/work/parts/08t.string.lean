/-! the String of the letters: id 3, its bytes: id 4 -/
section
variable {G : mG} {k : mM} {d : Nat} {b : Nat × Nat} {pc pc' : Nat} {ls : List (Option mV)} {st : List mV} {h : mH} {Q : Option mV → mH → Prop}
theorem mw_ldcStr (hk : k.1.cls = RX4) (hd : decode k.2.1 pc = .ok (.ldc 96, 2)) (hp : pc + 2 = pc') (kk : mW G k d b pc' ls (.inr (some 3) :: st) h Q) : mW G k d b pc ls st h Q := by
  subst hp
  intro p e s m args below meth c R Z C hQ H locs cells slots LS hA
  obtain ⟨hx, hbc, hr, hml, hown, hts, hlk, hnm, hK⟩ := id C
  rw [hk] at hown
  exact va_ldcS hx hbc hown hK.2.2.2.2.2.2.1 hd (kk p e s m args below meth c R Z C hQ _ _ _ _ _ hA)
theorem mw_callStr {k' : mM} {n idx : Nat} {b' b1 : Nat × Nat} {av rest : List mV} (hd : decode k.2.1 pc = .ok (.invokevirtual idx, 3)) (hp : pc + 3 = pc') (hm : mMk k' n) (hins : Cond.instanceMethod k'.1 ∈ mTs) (hsel : Cond.selects "java/lang/String" k'.1 k'.1 ∈ mTs) (hlk2 : Cond.methodLink k.1.cls idx k'.1 ∈ mTs) (hn : av.length = n) (hst : st = av.reverse ++ .inr (some 3) :: rest) (hr8 : rest.length ≤ 8) (hb : b'.1 + b1.1 ≤ b.1 ∧ b'.2 + b1.2 ≤ b.2)
    (cc : mC G k' d b' (.inr (some 3) :: av) h (fun r h' => mW G k (d + 1) b1 pc' ls (r.toList ++ rest) h' Q)) : mW G k (d + 1) b pc ls st h Q := by
  subst hp
  subst hst
  intro p e s m args below meth c R Z C hQ H locs cells slots LS hA
  obtain ⟨hx, hbc, hr, hml, hown, hts, hlk, hnm, hK⟩ := id C
  obtain ⟨⟨hf1, hf2, hf3, hf4⟩, hR, hS, hLs⟩ := id hA
  obtain ⟨cell, o1, o2, o3, o4⟩ := (hK.2.2.2.2.2.1.1 0 (by decide)).1
  have o5 : H[gC G 3]? = some cell := by rw [hS.2.1 _ (Array.getElem?_eq_some_iff.mp o1).1 o4]; exact o1
  have hpre : PreV s H "java/lang/String" (mRho G 3) (mPc G (.inr (some 3) :: av) h) (av.map (mTr G)) := ⟨mPc_blind G _ h, ⟨cell, o5, o2, o3⟩, mPc_in hK hR hS⟩
  have hstk : ((av.reverse ++ .inr (some 3) :: rest).map (mTr G)) = (av.map (mTr G)).reverse ++ .ref (mRho G 3) :: rest.map (mTr G) := by rw [List.map_append, List.map_reverse]; rfl
  have hroom := lv_room (m := m) (pc := pc) (ls := LS) (rest := (av.reverse ++ .inr (some 3) :: rest).map (mTr G)) (m_cat G rest hr8)
  refine m_after (rest := rest) C hQ hA hb ?_ (a := (Value.ref (mRho G 3) :: av.map (mTr G)).toArray)
  exact va_runV (cc := k.2.1) (nL := k.2.2.1) (Ts := mTs) (own := k.1.cls) (C := "java/lang/String") ⟨hx, hbc, hml, hown, hts⟩ cc ⟨callB_of n hts (mWd_good hm) rfl rfl rfl (hts _ hm.2.1) (hts _ hlk2) hm.2.2.1 (m_rm hf1 hf2 hm.2.2.2), hts _ hins, hts _ hsel⟩ hpre rfl (by simpa using hn) hLs.1 hstk hroom hd ⟨by omega, by omega⟩
theorem mw_strVal {idx : Nat} (hd : decode k.2.1 pc = .ok (.getfield idx, 3)) (hp : pc + 3 = pc') (hl : Cond.fieldLink k.1.cls idx "java/lang/String" "value" "[B" ∈ mTs) (kk : mW G k d b pc' ls (.inr (some 4) :: st) h Q) : mW G k d b pc ls (.inr (some 3) :: st) h Q := by
  subst hp
  intro p e s m args below meth c R Z C hQ H locs cells slots LS hA
  obtain ⟨hx, hbc, hr, hml, hown, hts, hlk, hnm, hK⟩ := id C
  obtain ⟨⟨hf1, hf2, hf3, hf4⟩, hR, hS, hLs⟩ := id hA
  obtain ⟨cf, kk0, i, f, cell, o1, o2, o3, o4, o5, o6⟩ := (hK.2.2.2.2.2.1.1 0 (by decide)).2.2.1
  have o7 : H[gC G 3]? = some cell := by rw [hS.2.1 _ (Array.getElem?_eq_some_iff.mp o3).1 o6]; exact o3
  exact W.getf (a := mRho G 3) hx hbc hown (hts _ hl) o1 o2 o7 o4 o5 rfl rfl hd (kk p e s m args below meth c R Z C hQ _ _ _ _ _ hA)
theorem mw_strCod {idx : Nat} (hd : decode k.2.1 pc = .ok (.getfield idx, 3)) (hp : pc + 3 = pc') (hl : Cond.fieldLink k.1.cls idx "java/lang/String" "coder" "B" ∈ mTs) (kk : mW G k d b pc' ls (.inl 0 :: st) h Q) : mW G k d b pc ls (.inr (some 3) :: st) h Q := by
  subst hp
  intro p e s m args below meth c R Z C hQ H locs cells slots LS hA
  obtain ⟨hx, hbc, hr, hml, hown, hts, hlk, hnm, hK⟩ := id C
  obtain ⟨⟨hf1, hf2, hf3, hf4⟩, hR, hS, hLs⟩ := id hA
  obtain ⟨cf, kk0, i, f, cell, o1, o2, o3, o4, o5, o6⟩ := (hK.2.2.2.2.2.1.1 0 (by decide)).2.1
  have o7 : H[gC G 3]? = some cell := by rw [hS.2.1 _ (Array.getElem?_eq_some_iff.mp o3).1 o6]; exact o3
  exact W.getf (a := mRho G 3) hx hbc hown (hts _ hl) o1 o2 o7 o4 o5 rfl rfl hd (kk p e s m args below meth c R Z C hQ _ _ _ _ _ hA)
theorem mw_compact {idx : Nat} (hd : decode k.2.1 pc = .ok (.getstatic idx, 3)) (hp : pc + 3 = pc') (hl : Cond.fieldLink k.1.cls idx "java/lang/String" "COMPACT_STRINGS" "Z" ∈ mTs) (kk : mW G k d b pc' ls (.inl 1 :: st) h Q) : mW G k d b pc ls st h Q := by
  subst hp
  intro p e s m args below meth c R Z C hQ H locs cells slots LS hA
  obtain ⟨hx, hbc, hr, hml, hown, hts, hlk, hnm, hK⟩ := id C
  obtain ⟨⟨hf1, hf2, hf3, hf4⟩, hR, hS, hLs⟩ := id hA
  exact va_gets hx hbc hK.2.2.2.2.2.2.2.1 hS hown (hts _ hl) (fun _ z => z) hd (kk p e s m args below meth c R Z C hQ _ _ _ _ _ hA)
theorem mw_strB {i : Int32} (hd : decode k.2.1 pc = .ok (.baload, 1)) (hp : pc + 1 = pc') (hi : vp_in i 9) (kk : mW G k d b pc' ls (.inl ((mBy.getD 0 []).getD i.toNatClampNeg 0) :: st) h Q) : mW G k d b pc ls (.inl i :: .inr (some 4) :: st) h Q := by
  subst hp
  intro p e s m args below meth c R Z C hQ H locs cells slots LS hA
  obtain ⟨hx, hbc, hr, hml, hown, hts, hlk, hnm, hK⟩ := id C
  obtain ⟨⟨hf1, hf2, hf3, hf4⟩, hR, hS, hLs⟩ := id hA
  exact va_tb hx hbc (hK.2.2.2.2.2.1.1 0 (by decide)).2.2.2 hS hi rfl hd (kk p e s m args below meth c R Z C hQ _ _ _ _ _ hA)
theorem mw_strLen (hd : decode k.2.1 pc = .ok (.arraylength, 1)) (hp : pc + 1 = pc') (kk : mW G k d b pc' ls (.inl 9 :: st) h Q) : mW G k d b pc ls (.inr (some 4) :: st) h Q := by
  subst hp
  intro p e s m args below meth c R Z C hQ H locs cells slots LS hA
  obtain ⟨hx, hbc, hr, hml, hown, hts, hlk, hnm, hK⟩ := id C
  obtain ⟨⟨hf1, hf2, hf3, hf4⟩, hR, hS, hLs⟩ := id hA
  exact va_tlen hx hbc (hK.2.2.2.2.2.1.1 0 (by decide)).2.2.2 hS rfl hd (kk p e s m args below meth c R Z C hQ _ _ _ _ _ hA)
end
section
variable {G : mG} {d : Nat} {b : Nat × Nat} {h : mH} {Q : Option mV → mH → Prop}
set_option maxRecDepth 100000 in
theorem ls_val : Cond.fieldLink RJ0 9 "java/lang/String" "value" "[B" ∈ mTs := mm 1715 (by decide +kernel) (by decide +kernel)
set_option maxRecDepth 100000 in
theorem ls_cod : Cond.fieldLink RJ0 15 "java/lang/String" "coder" "B" ∈ mTs := mm 1714 (by decide +kernel) (by decide +kernel)
set_option maxRecDepth 100000 in
theorem ls_com : Cond.fieldLink RJ0 38 "java/lang/String" "COMPACT_STRINGS" "Z" ∈ mTs := mm 503 (by decide +kernel) (by decide +kernel)
set_option maxRecDepth 100000 in
theorem ls_V0 : Cond.methodLink RX4 98 yJ0_indexOf_0f7a4 ∈ mTs ∧ Cond.instanceMethod yJ0_indexOf_0f7a4 ∈ mTs ∧ Cond.selects "java/lang/String" yJ0_indexOf_0f7a4 yJ0_indexOf_0f7a4 ∈ mTs := ⟨mm 491 (by decide +kernel) (by decide +kernel), mm 492 (by decide +kernel) (by decide +kernel), mm 493 (by decide +kernel) (by decide +kernel)⟩
set_option maxRecDepth 100000 in
theorem ls_V1 : Cond.methodLink RJ0 633 yJ0_indexOf_7cf53 ∈ mTs ∧ Cond.instanceMethod yJ0_indexOf_7cf53 ∈ mTs ∧ Cond.selects "java/lang/String" yJ0_indexOf_7cf53 yJ0_indexOf_7cf53 ∈ mTs := ⟨mm 495 (by decide +kernel) (by decide +kernel), mm 496 (by decide +kernel) (by decide +kernel), mm 497 (by decide +kernel) (by decide +kernel)⟩
set_option maxRecDepth 100000 in
theorem ls_V2 : Cond.methodLink RJ0 492 yJ0_isLatin1_aae02 ∈ mTs ∧ Cond.instanceMethod yJ0_isLatin1_aae02 ∈ mTs ∧ Cond.selects "java/lang/String" yJ0_isLatin1_aae02 yJ0_isLatin1_aae02 ∈ mTs := ⟨mm 499 (by decide +kernel) (by decide +kernel), mm 500 (by decide +kernel) (by decide +kernel), mm 501 (by decide +kernel) (by decide +kernel)⟩
set_option maxRecDepth 100000 in
theorem ls_V3 : Cond.methodLink RJ0 505 yJ0_length_8abf5 ∈ mTs ∧ Cond.instanceMethod yJ0_length_8abf5 ∈ mTs ∧ Cond.selects "java/lang/String" yJ0_length_8abf5 yJ0_length_8abf5 ∈ mTs := ⟨mm 505 (by decide +kernel) (by decide +kernel), mm 506 (by decide +kernel) (by decide +kernel), mm 507 (by decide +kernel) (by decide +kernel)⟩
set_option maxRecDepth 100000 in
theorem ls_V4 : Cond.methodLink RJ0 335 yJ0_coder_7d493 ∈ mTs ∧ Cond.instanceMethod yJ0_coder_7d493 ∈ mTs ∧ Cond.selects "java/lang/String" yJ0_coder_7d493 yJ0_coder_7d493 ∈ mTs := ⟨mm 509 (by decide +kernel) (by decide +kernel), mm 510 (by decide +kernel) (by decide +kernel), mm 511 (by decide +kernel) (by decide +kernel)⟩
theorem pJ0_coder (K : Q (some (.inl 0)) h) : mC G kJ0_coder_7d493 d b [.inr (some 3)] h Q := by
  refine mC_in rfl (Nat.le_of_ble_eq_true rfl) ?_
  show mW _ _ _ _ _ [some (.inr (some 3))] _ _ _
  refine mw_compact (pc' := 3) dJ0_coder_7d493_0 rfl ls_com ?_
  refine mw_if_eq (pc' := 6) (tgt := 13) dJ0_coder_7d493_3 rfl (by decide) (fun c => absurd c (by decide)) (fun c => ?_)
  refine mw_aload_n (pc' := 7) dJ0_coder_7d493_6 rfl rfl ?_
  refine mw_strCod (pc' := 10) dJ0_coder_7d493_7 rfl ls_cod ?_
  refine mw_goto (tgt := 14) dJ0_coder_7d493_10 (by decide) ?_
  exact mw_iret dJ0_coder_7d493_14 rfl rfl K
theorem pJ0_isLatin1 (K : Q (some (.inl 1)) h) : mC G kJ0_isLatin1_aae02 d b [.inr (some 3)] h Q := by
  refine mC_in rfl (Nat.le_of_ble_eq_true rfl) ?_
  show mW _ _ _ _ _ [some (.inr (some 3))] _ _ _
  refine mw_compact (pc' := 3) dJ0_isLatin1_aae02_0 rfl ls_com ?_
  refine mw_if_eq (pc' := 6) (tgt := 17) dJ0_isLatin1_aae02_3 rfl (by decide) (fun c => absurd c (by decide)) (fun c => ?_)
  refine mw_aload_n (pc' := 7) dJ0_isLatin1_aae02_6 rfl rfl ?_
  refine mw_strCod (pc' := 10) dJ0_isLatin1_aae02_7 rfl ls_cod ?_
  refine mw_if_ne (pc' := 13) (tgt := 17) dJ0_isLatin1_aae02_10 rfl (by decide) (fun c => absurd rfl c) (fun c => ?_)
  refine mw_iconst (pc' := 14) (v := 1) dJ0_isLatin1_aae02_13 rfl (by decide) ?_
  refine mw_goto (tgt := 18) dJ0_isLatin1_aae02_14 (by decide) ?_
  exact mw_iret dJ0_isLatin1_aae02_18 rfl (m_boolN m_bool1) K
theorem pJ0_length (K : Q (some (.inl 9)) h) : mC G kJ0_length_8abf5 (d + 1) b [.inr (some 3)] h Q := by
  refine mC_in rfl (Nat.le_of_ble_eq_true rfl) ?_
  show mW _ _ _ _ _ [some (.inr (some 3))] _ _ _
  refine mw_aload_n (pc' := 1) dJ0_length_8abf5_0 rfl rfl ?_
  refine mw_strVal (pc' := 4) dJ0_length_8abf5_1 rfl ls_val ?_
  refine mw_strLen (pc' := 5) dJ0_length_8abf5_4 rfl ?_
  refine mw_aload_n (pc' := 6) dJ0_length_8abf5_5 rfl rfl ?_
  refine mw_callStr (pc' := 9) (b' := (0, 0)) (b1 := b) (av := []) (rest := [.inl 9]) dJ0_length_8abf5_6 rfl mkJ0_coder_7d493 ls_V4.2.1 ls_V4.2.2 ls_V4.1 rfl rfl (Nat.le_of_ble_eq_true rfl) ⟨Nat.le_of_eq (Nat.zero_add _), Nat.le_of_eq (Nat.zero_add _)⟩ ?_
  refine pJ0_coder ?_
  refine mw_ishr (pc' := 10) dJ0_length_8abf5_9 rfl ?_
  exact mw_iret dJ0_length_8abf5_10 rfl rfl K
/-- which letter a sign is -/
def f_letF (c : Int32) : Nat → Nat → Int32
  | 0, _ => -1
  | n + 1, j => if (mBy.getD 0 []).getD j 0 = c then nI j else f_letF c n (j + 1)
theorem pJ1_ixLoop (c : Int32) : ∀ (n j : Nat), j + n = 9 → Q (some (.inl (f_letF c n j))) h → mW G kJ1_indexOfChar_4cfef d b 7 [some (.inr (some 4)), none, none, some (.inl 9), some (.inl c), some (.inl (nI j))] [] h Q := by
  intro n
  induction n with
  | zero =>
    intro j hj K
    have : j = 9 := by omega
    subst this
    refine mw_iload (pc' := 9) dJ1_indexOfChar_4cfef_7 rfl rfl ?_
    refine mw_iload_n (pc' := 10) dJ1_indexOfChar_4cfef_9 rfl rfl ?_
    refine mw_icmp_ge (pc' := 13) (tgt := 31) dJ1_indexOfChar_4cfef_10 rfl (by decide) (fun z => ?_) (fun z => absurd (by decide) z)
    refine mw_iconst (pc' := 32) (v := -1) dJ1_indexOfChar_4cfef_31 rfl (by decide) ?_
    exact mw_iret dJ1_indexOfChar_4cfef_32 rfl rfl K
  | succ n ih =>
    intro j hj K
    refine mw_iload (pc' := 9) dJ1_indexOfChar_4cfef_7 rfl rfl ?_
    refine mw_iload_n (pc' := 10) dJ1_indexOfChar_4cfef_9 rfl rfl ?_
    refine mw_icmp_ge (pc' := 13) (tgt := 31) dJ1_indexOfChar_4cfef_10 rfl (by decide) (fun z => absurd z (nI_ge (a := j) (b := 9) (by omega) (by omega))) (fun z => ?_)
    refine mw_aload_n (pc' := 14) dJ1_indexOfChar_4cfef_13 rfl rfl ?_
    refine mw_iload (pc' := 16) dJ1_indexOfChar_4cfef_14 rfl rfl ?_
    refine mw_strB (pc' := 17) dJ1_indexOfChar_4cfef_16 rfl (vp_in_nI (by omega) (by omega)) ?_
    rw [nI_clamp (by omega)]
    refine mw_iload (pc' := 19) dJ1_indexOfChar_4cfef_17 rfl rfl ?_
    unfold f_letF at K
    refine mw_icmp_ne (pc' := 22) (tgt := 25) dJ1_indexOfChar_4cfef_19 rfl (by decide) (fun z => ?_) (fun z => ?_)
    · rw [if_neg z] at K
      refine mw_iinc (pc' := 28) (v := nI (j + 1)) dJ1_indexOfChar_4cfef_25 rfl (by decide) rfl (nI_1 j) ?_
      refine mw_goto (tgt := 7) dJ1_indexOfChar_4cfef_28 (by decide) ?_
      exact ih (j + 1) (by omega) K
    · rw [if_pos z] at K
      refine mw_iload (pc' := 24) dJ1_indexOfChar_4cfef_22 rfl rfl ?_
      exact mw_iret dJ1_indexOfChar_4cfef_24 rfl rfl K
theorem pJ1_indexOfChar {c : Int32} (K : Q (some (.inl (f_letF c.toInt8.toInt32 9 0))) h) : mC G kJ1_indexOfChar_4cfef d b [.inr (some 4), .inl c, .inl 0, .inl 9] h Q := by
  refine mC_in rfl (Nat.le_of_ble_eq_true rfl) ?_
  show mW _ _ _ _ _ [some (.inr (some 4)), some (.inl c), some (.inl 0), some (.inl 9), none, none] _ _ _
  refine mw_iload_n (pc' := 1) dJ1_indexOfChar_4cfef_0 rfl rfl ?_
  refine mw_i2b (pc' := 2) dJ1_indexOfChar_4cfef_1 rfl ?_
  refine mw_istore (pc' := 4) dJ1_indexOfChar_4cfef_2 rfl (by decide) ?_
  refine mw_iload_n (pc' := 5) (x := 0) dJ1_indexOfChar_4cfef_4 rfl rfl ?_
  refine mw_istore (pc' := 7) dJ1_indexOfChar_4cfef_5 rfl (by decide) ?_
  show mW _ _ _ _ _ [some (.inr (some 4)), some (.inl c), some (.inl 0), some (.inl 9), some (.inl c.toInt8.toInt32), some (.inl 0)] _ _ _
  refine mw_weak (ls' := [some (.inr (some 4)), none, none, some (.inl 9), some (.inl c.toInt8.toInt32), some (.inl (nI 0))]) ?_ (pJ1_ixLoop _ 9 0 rfl K)
  intro i v hv
  match i, hv with
  | 0, hv => exact hv
  | 1, hv => cases hv
  | 2, hv => cases hv
  | 3, hv => exact hv
  | 4, hv => exact hv
  | 5, hv => exact hv
  | n + 6, hv => cases hv
theorem f_let_in : ∀ n, n < 256 → f_letF (nI n).toInt8.toInt32 9 0 = f_letF (nI n) 9 0 := by decide +kernel
theorem f_let_out {c : Int32} (h : ¬ (0 ≤ c ∧ c ≤ 255)) : f_letF c 9 0 = -1 := by
  have hb : ∀ b ∈ mBy.getD 0 [], 0 ≤ b ∧ b ≤ 255 := by decide +kernel
  have key : ∀ (l : List Int32) (j : Nat), j < l.length → l.getD j 0 ∈ l := fun l j hj => by
    rw [List.getD_eq_getElem?_getD, List.getElem?_eq_getElem hj]
    exact List.getElem_mem hj
  have : ∀ n j, j + n ≤ 9 → f_letF c n j = -1 := by
    intro n
    induction n with
    | zero => intro j _; rfl
    | succ n ih =>
      intro j hj
      unfold f_letF
      rw [if_neg, ih (j + 1) (by omega)]
      intro z
      apply h
      rw [← z]
      apply hb
      have hl : j < (mBy.getD 0 []).length := by show j < 9; omega
      exact key _ j hl
  exact this 9 0 (by omega)
/-- LETTERS.indexOf -/
def f_letters (c : Int32) : Int32 := f_letF c 9 0
theorem pJ1_indexOf {c : Int32} (K : Q (some (.inl (f_letters c))) h) : mC G kJ1_indexOf_4cfef (d + 1) b [.inr (some 4), .inl c, .inl 0, .inl 9] h Q := by
  refine mC_in rfl (Nat.le_of_ble_eq_true rfl) ?_
  show mW _ _ _ _ _ [some (.inr (some 4)), some (.inl c), some (.inl 0), some (.inl 9)] _ _ _
  refine mw_iload_n (pc' := 1) dJ1_indexOf_4cfef_0 rfl rfl ?_
  refine mw_callS (pc' := 4) (b' := (0, 0)) (b1 := b) (av := [.inl c]) (rest := []) dJ1_indexOf_4cfef_1 rfl lkJ1_88 rfl rfl (Nat.le_of_ble_eq_true rfl) ⟨Nat.le_of_eq (Nat.zero_add _), Nat.le_of_eq (Nat.zero_add _)⟩ ?_
  refine pJ1_canEncode_9a6ad ?_
  refine mw_if_ne (pc' := 7) (tgt := 9) dJ1_indexOf_4cfef_4 rfl (by decide) (fun z => ?_) (fun z => ?_)
  · have hc : 0 ≤ c ∧ c ≤ 255 := by
      unfold f_J1_canEncode_9a6ad at z
      by_cases h1 : c < 0
      · rw [if_pos h1] at z; exact absurd rfl z
      · rw [if_neg h1] at z
        by_cases h2 : (255 : Int32) < c
        · rw [if_pos h2] at z; exact absurd rfl z
        · exact ⟨Int32.not_lt.mp h1, Int32.not_lt.mp h2⟩
    obtain ⟨n, hn, rfl⟩ := nI_of2 (x := c) (M := 255) (n := 255) rfl (Int32.not_lt.mpr hc.1) hc.2
    refine mw_iload_n (pc' := 10) dJ1_indexOf_4cfef_9 rfl rfl ?_
    refine mw_iconst (pc' := 11) (v := 0) dJ1_indexOf_4cfef_10 rfl (by decide) ?_
    refine mw_mmax (pc' := 14) dJ1_indexOf_4cfef_11 rfl lkJ1_92 (Nat.le_of_ble_eq_true rfl) ?_
    rw [show f_max 0 0 = 0 from rfl]
    refine mw_istore_n (pc' := 15) dJ1_indexOf_4cfef_14 rfl (by decide) ?_
    show mW _ _ _ _ _ [some (.inr (some 4)), some (.inl (nI n)), some (.inl 0), some (.inl 9)] _ _ _
    refine mw_iload_n (pc' := 16) dJ1_indexOf_4cfef_15 rfl rfl ?_
    refine mw_aload_n (pc' := 17) dJ1_indexOf_4cfef_16 rfl rfl ?_
    refine mw_strLen (pc' := 18) dJ1_indexOf_4cfef_17 rfl ?_
    refine mw_mmin (pc' := 21) dJ1_indexOf_4cfef_18 rfl lkJ1_38 (Nat.le_of_ble_eq_true rfl) ?_
    rw [show f_min 9 9 = 9 from rfl]
    refine mw_istore_n (pc' := 22) dJ1_indexOf_4cfef_21 rfl (by decide) ?_
    show mW _ _ _ _ _ [some (.inr (some 4)), some (.inl (nI n)), some (.inl 0), some (.inl 9)] _ _ _
    refine mw_iload_n (pc' := 23) dJ1_indexOf_4cfef_22 rfl rfl ?_
    refine mw_iload_n (pc' := 24) dJ1_indexOf_4cfef_23 rfl rfl ?_
    refine mw_icmp_lt (pc' := 27) (tgt := 29) dJ1_indexOf_4cfef_24 rfl (by decide) (fun z => ?_) (fun z => absurd (by decide) z)
    refine mw_aload_n (pc' := 30) dJ1_indexOf_4cfef_29 rfl rfl ?_
    refine mw_iload_n (pc' := 31) dJ1_indexOf_4cfef_30 rfl rfl ?_
    refine mw_iload_n (pc' := 32) dJ1_indexOf_4cfef_31 rfl rfl ?_
    refine mw_iload_n (pc' := 33) dJ1_indexOf_4cfef_32 rfl rfl ?_
    refine mw_callS (pc' := 36) (b' := (0, 0)) (b1 := b) (av := [.inr (some 4), .inl (nI n), .inl 0, .inl 9]) (rest := []) dJ1_indexOf_4cfef_33 rfl lkJ1_95 rfl rfl (Nat.le_of_ble_eq_true rfl) ⟨Nat.le_of_eq (Nat.zero_add _), Nat.le_of_eq (Nat.zero_add _)⟩ ?_
    refine pJ1_indexOfChar ?_
    rw [f_let_in n (by omega)]
    exact mw_iret dJ1_indexOf_4cfef_36 rfl rfl K
  · have hc : ¬ (0 ≤ c ∧ c ≤ 255) := by
      intro hc
      unfold f_J1_canEncode_9a6ad at z
      rw [if_neg (Int32.not_lt.mpr hc.1), if_neg (Int32.not_lt.mpr hc.2)] at z
      exact absurd z (by decide)
    unfold f_letters at K
    rw [f_let_out hc] at K
    refine mw_iconst (pc' := 8) (v := -1) dJ1_indexOf_4cfef_7 rfl (by decide) ?_
    exact mw_iret dJ1_indexOf_4cfef_8 rfl rfl K
theorem pJ0_indexOf2 {c : Int32} (K : Q (some (.inl (f_letters c))) h) : mC G kJ0_indexOf_7cf53 (d + 2) b [.inr (some 3), .inl c, .inl 0] h Q := by
  refine mC_in rfl (Nat.le_of_ble_eq_true rfl) ?_
  show mW _ _ _ _ _ [some (.inr (some 3)), some (.inl c), some (.inl 0)] _ _ _
  refine mw_aload_n (pc' := 1) dJ0_indexOf_7cf53_0 rfl rfl ?_
  refine mw_callStr (pc' := 4) (b' := (0, 0)) (b1 := b) (av := []) (rest := []) dJ0_indexOf_7cf53_1 rfl mkJ0_isLatin1_aae02 ls_V2.2.1 ls_V2.2.2 ls_V2.1 rfl rfl (Nat.le_of_ble_eq_true rfl) ⟨Nat.le_of_eq (Nat.zero_add _), Nat.le_of_eq (Nat.zero_add _)⟩ ?_
  refine pJ0_isLatin1 ?_
  refine mw_if_eq (pc' := 7) (tgt := 23) dJ0_indexOf_7cf53_4 rfl (by decide) (fun z => absurd z (by decide)) (fun z => ?_)
  refine mw_aload_n (pc' := 8) dJ0_indexOf_7cf53_7 rfl rfl ?_
  refine mw_strVal (pc' := 11) dJ0_indexOf_7cf53_8 rfl ls_val ?_
  refine mw_iload_n (pc' := 12) dJ0_indexOf_7cf53_11 rfl rfl ?_
  refine mw_iload_n (pc' := 13) dJ0_indexOf_7cf53_12 rfl rfl ?_
  refine mw_aload_n (pc' := 14) dJ0_indexOf_7cf53_13 rfl rfl ?_
  refine mw_callStr (pc' := 17) (b' := (0, 0)) (b1 := b) (av := []) (rest := [.inl 0, .inl c, .inr (some 4)]) dJ0_indexOf_7cf53_14 rfl mkJ0_length_8abf5 ls_V3.2.1 ls_V3.2.2 ls_V3.1 rfl rfl (Nat.le_of_ble_eq_true rfl) ⟨Nat.le_of_eq (Nat.zero_add _), Nat.le_of_eq (Nat.zero_add _)⟩ ?_
  refine pJ0_length ?_
  refine mw_callS (pc' := 20) (b' := (0, 0)) (b1 := b) (av := [.inr (some 4), .inl c, .inl 0, .inl 9]) (rest := []) dJ0_indexOf_7cf53_17 rfl lkJ0_637 rfl rfl (Nat.le_of_ble_eq_true rfl) ⟨Nat.le_of_eq (Nat.zero_add _), Nat.le_of_eq (Nat.zero_add _)⟩ ?_
  refine pJ1_indexOf ?_
  refine mw_goto (tgt := 36) dJ0_indexOf_7cf53_20 (by decide) ?_
  exact mw_iret dJ0_indexOf_7cf53_36 rfl rfl K
theorem pJ0_indexOf {c : Int32} (K : Q (some (.inl (f_letters c))) h) : mC G kJ0_indexOf_0f7a4 (d + 3) b [.inr (some 3), .inl c] h Q := by
  refine mC_in rfl (Nat.le_of_ble_eq_true rfl) ?_
  show mW _ _ _ _ _ [some (.inr (some 3)), some (.inl c)] _ _ _
  refine mw_aload_n (pc' := 1) dJ0_indexOf_0f7a4_0 rfl rfl ?_
  refine mw_iload_n (pc' := 2) dJ0_indexOf_0f7a4_1 rfl rfl ?_
  refine mw_iconst (pc' := 3) (v := 0) dJ0_indexOf_0f7a4_2 rfl (by decide) ?_
  refine mw_callStr (pc' := 6) (b' := (0, 0)) (b1 := b) (av := [.inl c, .inl 0]) (rest := []) dJ0_indexOf_0f7a4_3 rfl mkJ0_indexOf_7cf53 ls_V1.2.1 ls_V1.2.2 ls_V1.1 rfl rfl (Nat.le_of_ble_eq_true rfl) ⟨Nat.le_of_eq (Nat.zero_add _), Nat.le_of_eq (Nat.zero_add _)⟩ ?_
  refine pJ0_indexOf2 ?_
  exact mw_iret dJ0_indexOf_0f7a4_6 rfl rfl K
end
