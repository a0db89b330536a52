theorem mT_Al_lt {h h1 : mH} {t n a s : Nat} (e : h1 = mAl h t n) (hl : a < mN h) (ha : mT h a = s) : mT h1 a = s := by
  subst e
  have hne : a ≠ h.1 := fun z => by have : h.1 = mN h := rfl; omega
  exact (if_neg hne).trans ha
theorem mN_Al_lt {h h1 : mH} {t n a : Nat} (e : h1 = mAl h t n) (hl : a < mN h) : a < mN h1 := by
  subst e
  exact Nat.lt_succ_of_lt hl
section
variable {G : mG} {k : mM} {d : Nat} {b : Nat × Nat} {pc pc' : Nat} {ls : List (Option mV)} {st : List mV} {h : mH} {Q : Option mV → mH → Prop}
theorem mw_newaC {i : Int32} {n : Nat} {b1 b2 : Nat} {t : Nat} {aty : ArrayType} (hd : decode k.2.1 pc = .ok (.newarray aty, 2)) (hp : pc + 2 = pc') (hty : (aty = .int ∧ t = 0) ∨ (aty = .boolean ∧ t = 1) ∨ (aty = .byte ∧ t = 5)) (hi : ¬ i < 0) (hin : i.toNatClampNeg = n) (hb8 : n * 8 ≤ 536870912) (hb : b = (b1 + 1, b2 + n)) (kk : ∀ h', h' = mAl h (100 + t) n → mW G k d (b1, b2) pc' ls (.inr (some (mN h)) :: st) h' Q) : mW G k d b pc ls (.inl i :: st) h Q := mw_newa hd hp hty hi hin hb8 hb (kk _ rfl)
theorem mw_anewC {i : Int32} {n : Nat} {b1 b2 : Nat} {t idx : Nat} (hd : decode k.2.1 pc = .ok (.anewarray idx, 3)) (hp : pc + 3 = pc') (ht : t < 3) (hcl : ∀ q : vw_C, vwCl[mAc t]? = some q → Cond.classLink k.1.cls idx q.1 ∈ mTs) (hi : ¬ i < 0) (hin : i.toNatClampNeg = n) (hb8 : n * 8 ≤ 536870912) (hb : b = (b1 + 1, b2 + n)) (kk : ∀ h', h' = mAl h (110 + t) n → mW G k d (b1, b2) pc' ls (.inr (some (mN h)) :: st) h' Q) : mW G k d b pc ls (.inl i :: st) h Q := mw_anew hd hp ht hcl hi hin hb8 hb (kk _ rfl)
theorem mw_newC {b1 b2 ci N idx : Nat} (hd : decode k.2.1 pc = .ok (.new idx, 3)) (hp : pc + 3 = pc') (hN : mNf ci = N) (hcl : ∃ q : vw_C, vwCl[ci]? = some q ∧ Cond.classLink k.1.cls idx q.1 ∈ mTs ∧ Cond.instantiable q.1 N ∈ mTs ∧ Cond.initialized q.1 ∈ mTs) (hdf : ∀ j, j < N → mFr ci j = false → defaultValue (mTy ci j) = .int 0) (hb : b = (b1 + 1, b2 + N)) (kk : ∀ h', h' = mAl h (ci + 1) 0 → mW G k d (b1, b2) pc' ls (.inr (some (mN h)) :: st) h' Q) : mW G k d b pc ls st h Q := mw_new hd hp hN hcl hdf hb (kk _ rfl)
end
set_option maxRecDepth 100000 in
set_option maxHeartbeats 4000000 in
theorem qX9_init {G : mG} {d : Nat} {b1 b2 : Nat} {h : mH} {Q : Option mV → mH → Prop} (a : Nat) (ta : mT h a = 10) (lta : a < mN h)
    (K : ∀ h1, h1 = mAl h 100 220 → ∀ h2, h2 = mSR h1 a 0 (some (mN h)) → Q none h2) : mC G kX9_init (d + 1) (b1 + 1, b2 + 220) [.inr (some a)] h Q := by
  refine mC_in rfl (Nat.le_of_ble_eq_true rfl) ?_
  show mW _ _ _ _ _ [some (.inr (some a))] _ _ _
  refine mw_aload_n (pc' := 1) dX9_init_0 rfl rfl ?_
  refine mw_objInit (pc' := 4) dX9_init_1 rfl lkX9_3 (Nat.le_of_ble_eq_true rfl) ?_
  refine mw_aload_n (pc' := 5) dX9_init_4 rfl rfl ?_
  refine mw_sipush (pc' := 8) (v := 220) dX9_init_5 rfl (by decide) ?_
  refine mw_newaC (pc' := 10) (b1 := b1) (b2 := b2) (n := 220) (t := 0) dX9_init_8 rfl (by decide) (by decide) (by decide) (by decide) rfl (fun h1 eh1 => ?_)
  replace K := K h1 eh1
  have ta : mT h1 a = 10 := mT_Al_lt eh1 lta ta
  have lta : a < mN h1 := mN_Al_lt eh1 lta
  refine mw_putRC (pc' := 13) dX9_init_10 rfl flX9_9 rfl (Or.inr ⟨rfl, rfl, rfl⟩) (ta) (fun h2 eh2 => ?_)
  replace K := K h2 eh2
  have ta : mT h2 a = 10 := by rw [eh2]; exact ta
  have lta : a < mN h2 := by rw [eh2]; exact lta
  exact mw_ret dX9_init_13 rfl K

set_option maxRecDepth 100000 in
set_option maxHeartbeats 4000000 in
theorem qX3_init {G : mG} {d : Nat} {b1 b2 : Nat} {h : mH} {Q : Option mV → mH → Prop} (a : Nat) (ta : mT h a = 4) (lta : a < mN h)
    (K : ∀ h1, h1 = mAl h 100 160 → ∀ h2, h2 = mSR h1 a 0 (some (mN h)) → ∀ h3, h3 = mAl h2 100 13 → ∀ h4, h4 = mSR h3 a 1 (some (mN h2)) → ∀ h5, h5 = mAl h4 100 12 → ∀ h6, h6 = mSR h5 a 2 (some (mN h4)) → ∀ h7, h7 = mAl h6 100 20 → ∀ h8, h8 = mSR h7 a 3 (some (mN h6)) → Q none h8) : mC G kX3_init (d + 1) (b1 + 4, b2 + 205) [.inr (some a)] h Q := by
  refine mC_in rfl (Nat.le_of_ble_eq_true rfl) ?_
  show mW _ _ _ _ _ [some (.inr (some a))] _ _ _
  refine mw_aload_n (pc' := 1) dX3_init_0 rfl rfl ?_
  refine mw_objInit (pc' := 4) dX3_init_1 rfl lkX3_3 (Nat.le_of_ble_eq_true rfl) ?_
  refine mw_aload_n (pc' := 5) dX3_init_4 rfl rfl ?_
  refine mw_sipush (pc' := 8) (v := 160) dX3_init_5 rfl (by decide) ?_
  refine mw_newaC (pc' := 10) (b1 := b1 + 3) (b2 := b2 + 45) (n := 160) (t := 0) dX3_init_8 rfl (by decide) (by decide) (by decide) (by decide) rfl (fun h1 eh1 => ?_)
  replace K := K h1 eh1
  have ta : mT h1 a = 4 := mT_Al_lt eh1 lta ta
  have lta : a < mN h1 := mN_Al_lt eh1 lta
  refine mw_putRC (pc' := 13) dX3_init_10 rfl flX3_9 rfl (Or.inr ⟨rfl, rfl, rfl⟩) (ta) (fun h2 eh2 => ?_)
  replace K := K h2 eh2
  have ta : mT h2 a = 4 := by rw [eh2]; exact ta
  have lta : a < mN h2 := by rw [eh2]; exact lta
  refine mw_aload_n (pc' := 14) dX3_init_13 rfl rfl ?_
  refine mw_bipush (pc' := 16) (v := 13) dX3_init_14 rfl (by decide) ?_
  refine mw_newaC (pc' := 18) (b1 := b1 + 2) (b2 := b2 + 32) (n := 13) (t := 0) dX3_init_16 rfl (by decide) (by decide) (by decide) (by decide) rfl (fun h3 eh3 => ?_)
  replace K := K h3 eh3
  have ta : mT h3 a = 4 := mT_Al_lt eh3 lta ta
  have lta : a < mN h3 := mN_Al_lt eh3 lta
  refine mw_putRC (pc' := 21) dX3_init_18 rfl flX3_15 rfl (Or.inr ⟨rfl, rfl, rfl⟩) (ta) (fun h4 eh4 => ?_)
  replace K := K h4 eh4
  have ta : mT h4 a = 4 := by rw [eh4]; exact ta
  have lta : a < mN h4 := by rw [eh4]; exact lta
  refine mw_aload_n (pc' := 22) dX3_init_21 rfl rfl ?_
  refine mw_bipush (pc' := 24) (v := 12) dX3_init_22 rfl (by decide) ?_
  refine mw_newaC (pc' := 26) (b1 := b1 + 1) (b2 := b2 + 20) (n := 12) (t := 0) dX3_init_24 rfl (by decide) (by decide) (by decide) (by decide) rfl (fun h5 eh5 => ?_)
  replace K := K h5 eh5
  have ta : mT h5 a = 4 := mT_Al_lt eh5 lta ta
  have lta : a < mN h5 := mN_Al_lt eh5 lta
  refine mw_putRC (pc' := 29) dX3_init_26 rfl flX3_18 rfl (Or.inr ⟨rfl, rfl, rfl⟩) (ta) (fun h6 eh6 => ?_)
  replace K := K h6 eh6
  have ta : mT h6 a = 4 := by rw [eh6]; exact ta
  have lta : a < mN h6 := by rw [eh6]; exact lta
  refine mw_aload_n (pc' := 30) dX3_init_29 rfl rfl ?_
  refine mw_bipush (pc' := 32) (v := 20) dX3_init_30 rfl (by decide) ?_
  refine mw_newaC (pc' := 34) (b1 := b1) (b2 := b2) (n := 20) (t := 0) dX3_init_32 rfl (by decide) (by decide) (by decide) (by decide) rfl (fun h7 eh7 => ?_)
  replace K := K h7 eh7
  have ta : mT h7 a = 4 := mT_Al_lt eh7 lta ta
  have lta : a < mN h7 := mN_Al_lt eh7 lta
  refine mw_putRC (pc' := 37) dX3_init_34 rfl flX3_21 rfl (Or.inr ⟨rfl, rfl, rfl⟩) (ta) (fun h8 eh8 => ?_)
  replace K := K h8 eh8
  have ta : mT h8 a = 4 := by rw [eh8]; exact ta
  have lta : a < mN h8 := by rw [eh8]; exact lta
  exact mw_ret dX3_init_37 rfl K

set_option maxRecDepth 100000 in
set_option maxHeartbeats 4000000 in
theorem qX2_init {G : mG} {d : Nat} {b1 b2 : Nat} {h : mH} {Q : Option mV → mH → Prop} (a : Nat) (ta : mT h a = 3) (lta : a < mN h)
    (K : ∀ h1, h1 = mAl h 100 6 → ∀ h2, h2 = mSR h1 a 0 (some (mN h)) → ∀ h3, h3 = mAl h2 100 6 → ∀ h4, h4 = mSR h3 a 1 (some (mN h2)) → ∀ h5, h5 = mAl h4 100 6 → ∀ h6, h6 = mSR h5 a 2 (some (mN h4)) → ∀ h7, h7 = mAl h6 100 6 → ∀ h8, h8 = mSR h7 a 3 (some (mN h6)) → ∀ h9, h9 = mAl h8 4 0 → mC G kX3_init (d + 1) (4, 205) [.inr (some (mN h8))] h9 (fun r h11 => r = none ∧ mT h11 a = 3 ∧ a < mN h11 ∧ mT h11 (mN h8) = 4 ∧ (mN h8) < mN h11 ∧ ∀ h12, h12 = mSR h11 a 5 (some (mN h8)) → ∀ h13, h13 = mAl h12 4 0 → mC G kX3_init (d + 1) (4, 205) [.inr (some (mN h12))] h13 (fun r h15 => r = none ∧ mT h15 a = 3 ∧ a < mN h15 ∧ mT h15 (mN h8) = 4 ∧ (mN h8) < mN h15 ∧ mT h15 (mN h12) = 4 ∧ (mN h12) < mN h15 ∧ ∀ h16, h16 = mSR h15 a 6 (some (mN h12)) → ∀ h17, h17 = mAl h16 100 9 → ∀ h18, h18 = mSR h17 a 7 (some (mN h16)) → Q none h18))) : mC G kX2_init (d + 2) (b1 + 15, b2 + 459) [.inr (some a)] h Q := by
  refine mC_in rfl (Nat.le_of_ble_eq_true rfl) ?_
  show mW _ _ _ _ _ [some (.inr (some a))] _ _ _
  refine mw_aload_n (pc' := 1) dX2_init_0 rfl rfl ?_
  refine mw_objInit (pc' := 4) dX2_init_1 rfl lkX2_3 (Nat.le_of_ble_eq_true rfl) ?_
  refine mw_aload_n (pc' := 5) dX2_init_4 rfl rfl ?_
  refine mw_bipush (pc' := 7) (v := 6) dX2_init_5 rfl (by decide) ?_
  refine mw_newaC (pc' := 9) (b1 := b1 + 14) (b2 := b2 + 453) (n := 6) (t := 0) dX2_init_7 rfl (by decide) (by decide) (by decide) (by decide) rfl (fun h1 eh1 => ?_)
  replace K := K h1 eh1
  have ta : mT h1 a = 3 := mT_Al_lt eh1 lta ta
  have lta : a < mN h1 := mN_Al_lt eh1 lta
  refine mw_putRC (pc' := 12) dX2_init_9 rfl flX2_9 rfl (Or.inr ⟨rfl, rfl, rfl⟩) (ta) (fun h2 eh2 => ?_)
  replace K := K h2 eh2
  have ta : mT h2 a = 3 := by rw [eh2]; exact ta
  have lta : a < mN h2 := by rw [eh2]; exact lta
  refine mw_aload_n (pc' := 13) dX2_init_12 rfl rfl ?_
  refine mw_bipush (pc' := 15) (v := 6) dX2_init_13 rfl (by decide) ?_
  refine mw_newaC (pc' := 17) (b1 := b1 + 13) (b2 := b2 + 447) (n := 6) (t := 0) dX2_init_15 rfl (by decide) (by decide) (by decide) (by decide) rfl (fun h3 eh3 => ?_)
  replace K := K h3 eh3
  have ta : mT h3 a = 3 := mT_Al_lt eh3 lta ta
  have lta : a < mN h3 := mN_Al_lt eh3 lta
  refine mw_putRC (pc' := 20) dX2_init_17 rfl flX2_15 rfl (Or.inr ⟨rfl, rfl, rfl⟩) (ta) (fun h4 eh4 => ?_)
  replace K := K h4 eh4
  have ta : mT h4 a = 3 := by rw [eh4]; exact ta
  have lta : a < mN h4 := by rw [eh4]; exact lta
  refine mw_aload_n (pc' := 21) dX2_init_20 rfl rfl ?_
  refine mw_bipush (pc' := 23) (v := 6) dX2_init_21 rfl (by decide) ?_
  refine mw_newaC (pc' := 25) (b1 := b1 + 12) (b2 := b2 + 441) (n := 6) (t := 0) dX2_init_23 rfl (by decide) (by decide) (by decide) (by decide) rfl (fun h5 eh5 => ?_)
  replace K := K h5 eh5
  have ta : mT h5 a = 3 := mT_Al_lt eh5 lta ta
  have lta : a < mN h5 := mN_Al_lt eh5 lta
  refine mw_putRC (pc' := 28) dX2_init_25 rfl flX2_18 rfl (Or.inr ⟨rfl, rfl, rfl⟩) (ta) (fun h6 eh6 => ?_)
  replace K := K h6 eh6
  have ta : mT h6 a = 3 := by rw [eh6]; exact ta
  have lta : a < mN h6 := by rw [eh6]; exact lta
  refine mw_aload_n (pc' := 29) dX2_init_28 rfl rfl ?_
  refine mw_bipush (pc' := 31) (v := 6) dX2_init_29 rfl (by decide) ?_
  refine mw_newaC (pc' := 33) (b1 := b1 + 11) (b2 := b2 + 435) (n := 6) (t := 0) dX2_init_31 rfl (by decide) (by decide) (by decide) (by decide) rfl (fun h7 eh7 => ?_)
  replace K := K h7 eh7
  have ta : mT h7 a = 3 := mT_Al_lt eh7 lta ta
  have lta : a < mN h7 := mN_Al_lt eh7 lta
  refine mw_putRC (pc' := 36) dX2_init_33 rfl flX2_21 rfl (Or.inr ⟨rfl, rfl, rfl⟩) (ta) (fun h8 eh8 => ?_)
  replace K := K h8 eh8
  have ta : mT h8 a = 3 := by rw [eh8]; exact ta
  have lta : a < mN h8 := by rw [eh8]; exact lta
  refine mw_aload_n (pc' := 37) dX2_init_36 rfl rfl ?_
  refine mw_newC (pc' := 40) (b1 := b1 + 10) (b2 := b2 + 427) (ci := 3) (N := 8) dX2_init_37 rfl rfl nwX2_24 (by decide) rfl (fun h9 eh9 => ?_)
  replace K := K h9 eh9
  have ta : mT h9 a = 3 := mT_Al_lt eh9 lta ta
  have lta : a < mN h9 := mN_Al_lt eh9 lta
  have tn10 : mT h9 (mN h8) = 4 := by rw [eh9]; exact mAl_T
  have ltn10 : mN h8 < mN h9 := by rw [eh9]; exact Nat.lt_succ_self _
  refine mw_dup (pc' := 41) dX2_init_40 rfl ?_
  refine mw_callI (pc' := 44) (b' := (4, 205)) (b1 := (b1 + 6, b2 + 222)) (av := []) (rest := [.inr (some (mN h8)), .inr (some a)]) dX2_init_41 rfl lkX2_26 rfl rfl (Nat.le_of_ble_eq_true rfl) ⟨by dsimp only; omega, by dsimp only; omega⟩ ?_
  refine mC_mono (fun r h11 hr => ?_) K
  obtain ⟨rfl, ta, lta, tn10, ltn10, K⟩ := hr
  show mW _ _ _ _ _ _ [.inr (some (mN h8)), .inr (some a)] _ _
  refine mw_putRC (pc' := 47) dX2_init_44 rfl flX2_27 rfl (Or.inl rfl) (ta) (fun h12 eh12 => ?_)
  replace K := K h12 eh12
  have ta : mT h12 a = 3 := by rw [eh12]; exact ta
  have lta : a < mN h12 := by rw [eh12]; exact lta
  have tn10 : mT h12 (mN h8) = 4 := by rw [eh12]; exact tn10
  have ltn10 : (mN h8) < mN h12 := by rw [eh12]; exact ltn10
  refine mw_aload_n (pc' := 48) dX2_init_47 rfl rfl ?_
  refine mw_newC (pc' := 51) (b1 := b1 + 5) (b2 := b2 + 214) (ci := 3) (N := 8) dX2_init_48 rfl rfl nwX2_24 (by decide) rfl (fun h13 eh13 => ?_)
  replace K := K h13 eh13
  have ta : mT h13 a = 3 := mT_Al_lt eh13 lta ta
  have lta : a < mN h13 := mN_Al_lt eh13 lta
  have tn10 : mT h13 (mN h8) = 4 := mT_Al_lt eh13 ltn10 tn10
  have ltn10 : (mN h8) < mN h13 := mN_Al_lt eh13 ltn10
  have tn14 : mT h13 (mN h12) = 4 := by rw [eh13]; exact mAl_T
  have ltn14 : mN h12 < mN h13 := by rw [eh13]; exact Nat.lt_succ_self _
  refine mw_dup (pc' := 52) dX2_init_51 rfl ?_
  refine mw_callI (pc' := 55) (b' := (4, 205)) (b1 := (b1 + 1, b2 + 9)) (av := []) (rest := [.inr (some (mN h12)), .inr (some a)]) dX2_init_52 rfl lkX2_26 rfl rfl (Nat.le_of_ble_eq_true rfl) ⟨by dsimp only; omega, by dsimp only; omega⟩ ?_
  refine mC_mono (fun r h15 hr => ?_) K
  obtain ⟨rfl, ta, lta, tn10, ltn10, tn14, ltn14, K⟩ := hr
  show mW _ _ _ _ _ _ [.inr (some (mN h12)), .inr (some a)] _ _
  refine mw_putRC (pc' := 58) dX2_init_55 rfl flX2_31 rfl (Or.inl rfl) (ta) (fun h16 eh16 => ?_)
  replace K := K h16 eh16
  have ta : mT h16 a = 3 := by rw [eh16]; exact ta
  have lta : a < mN h16 := by rw [eh16]; exact lta
  have tn10 : mT h16 (mN h8) = 4 := by rw [eh16]; exact tn10
  have ltn10 : (mN h8) < mN h16 := by rw [eh16]; exact ltn10
  have tn14 : mT h16 (mN h12) = 4 := by rw [eh16]; exact tn14
  have ltn14 : (mN h12) < mN h16 := by rw [eh16]; exact ltn14
  refine mw_aload_n (pc' := 59) dX2_init_58 rfl rfl ?_
  refine mw_bipush (pc' := 61) (v := 9) dX2_init_59 rfl (by decide) ?_
  refine mw_newaC (pc' := 63) (b1 := b1) (b2 := b2) (n := 9) (t := 0) dX2_init_61 rfl (by decide) (by decide) (by decide) (by decide) rfl (fun h17 eh17 => ?_)
  replace K := K h17 eh17
  have ta : mT h17 a = 3 := mT_Al_lt eh17 lta ta
  have lta : a < mN h17 := mN_Al_lt eh17 lta
  have tn10 : mT h17 (mN h8) = 4 := mT_Al_lt eh17 ltn10 tn10
  have ltn10 : (mN h8) < mN h17 := mN_Al_lt eh17 ltn10
  have tn14 : mT h17 (mN h12) = 4 := mT_Al_lt eh17 ltn14 tn14
  have ltn14 : (mN h12) < mN h17 := mN_Al_lt eh17 ltn14
  refine mw_putRC (pc' := 66) dX2_init_63 rfl flX2_34 rfl (Or.inr ⟨rfl, rfl, rfl⟩) (ta) (fun h18 eh18 => ?_)
  replace K := K h18 eh18
  have ta : mT h18 a = 3 := by rw [eh18]; exact ta
  have lta : a < mN h18 := by rw [eh18]; exact lta
  have tn10 : mT h18 (mN h8) = 4 := by rw [eh18]; exact tn10
  have ltn10 : (mN h8) < mN h18 := by rw [eh18]; exact ltn10
  have tn14 : mT h18 (mN h12) = 4 := by rw [eh18]; exact tn14
  have ltn14 : (mN h12) < mN h18 := by rw [eh18]; exact ltn14
  exact mw_ret dX2_init_66 rfl K

set_option maxRecDepth 100000 in
set_option maxHeartbeats 4000000 in
theorem qX4_init {G : mG} {d : Nat} {b1 b2 : Nat} {h : mH} {Q : Option mV → mH → Prop} (a : Nat) (ta : mT h a = 5) (lta : a < mN h)
    (K : ∀ h1, h1 = mAl h 100 160 → ∀ h2, h2 = mSR h1 a 0 (some (mN h)) → Q none h2) : mC G kX4_init (d + 1) (b1 + 1, b2 + 160) [.inr (some a)] h Q := by
  refine mC_in rfl (Nat.le_of_ble_eq_true rfl) ?_
  show mW _ _ _ _ _ [some (.inr (some a))] _ _ _
  refine mw_aload_n (pc' := 1) dX4_init_0 rfl rfl ?_
  refine mw_objInit (pc' := 4) dX4_init_1 rfl lkX4_3 (Nat.le_of_ble_eq_true rfl) ?_
  refine mw_aload_n (pc' := 5) dX4_init_4 rfl rfl ?_
  refine mw_sipush (pc' := 8) (v := 160) dX4_init_5 rfl (by decide) ?_
  refine mw_newaC (pc' := 10) (b1 := b1) (b2 := b2) (n := 160) (t := 0) dX4_init_8 rfl (by decide) (by decide) (by decide) (by decide) rfl (fun h1 eh1 => ?_)
  replace K := K h1 eh1
  have ta : mT h1 a = 5 := mT_Al_lt eh1 lta ta
  have lta : a < mN h1 := mN_Al_lt eh1 lta
  refine mw_putRC (pc' := 13) dX4_init_10 rfl flX4_9 rfl (Or.inr ⟨rfl, rfl, rfl⟩) (ta) (fun h2 eh2 => ?_)
  replace K := K h2 eh2
  have ta : mT h2 a = 5 := by rw [eh2]; exact ta
  have lta : a < mN h2 := by rw [eh2]; exact lta
  exact mw_ret dX4_init_13 rfl K

set_option maxRecDepth 100000 in
set_option maxHeartbeats 4000000 in
theorem qX5_init {G : mG} {d : Nat} {b1 b2 : Nat} {h : mH} {Q : Option mV → mH → Prop} (a : Nat) (ta : mT h a = 6) (lta : a < mN h)
    (K : ∀ h1, h1 = mAl h 112 6 → ∀ h2, h2 = mSR h1 a 6 (some (mN h)) → Q none h2) : mC G kX5_init (d + 1) (b1 + 1, b2 + 6) [.inr (some a)] h Q := by
  refine mC_in rfl (Nat.le_of_ble_eq_true rfl) ?_
  show mW _ _ _ _ _ [some (.inr (some a))] _ _ _
  refine mw_aload_n (pc' := 1) dX5_init_0 rfl rfl ?_
  refine mw_objInit (pc' := 4) dX5_init_1 rfl lkX5_3 (Nat.le_of_ble_eq_true rfl) ?_
  refine mw_aload_n (pc' := 5) dX5_init_4 rfl rfl ?_
  refine mw_bipush (pc' := 7) (v := 6) dX5_init_5 rfl (by decide) ?_
  refine mw_anewC (pc' := 10) (b1 := b1) (b2 := b2) (n := 6) (t := 2) dX5_init_7 rfl (by decide) anX5_9 (by decide) (by decide) (by decide) rfl (fun h1 eh1 => ?_)
  replace K := K h1 eh1
  have ta : mT h1 a = 6 := mT_Al_lt eh1 lta ta
  have lta : a < mN h1 := mN_Al_lt eh1 lta
  refine mw_putRC (pc' := 13) dX5_init_10 rfl flX5_11 rfl (Or.inr ⟨rfl, rfl, rfl⟩) (ta) (fun h2 eh2 => ?_)
  replace K := K h2 eh2
  have ta : mT h2 a = 6 := by rw [eh2]; exact ta
  have lta : a < mN h2 := by rw [eh2]; exact lta
  exact mw_ret dX5_init_13 rfl K

set_option maxRecDepth 100000 in
set_option maxHeartbeats 4000000 in
theorem qX7_init {G : mG} {d : Nat} {b1 b2 : Nat} {h : mH} {Q : Option mV → mH → Prop} (a : Nat) (ta : mT h a = 8) (lta : a < mN h)
    (K : ∀ h1, h1 = mAl h 100 256 → ∀ h2, h2 = mSR h1 a 4 (some (mN h)) → ∀ h3, h3 = mAl h2 100 256 → ∀ h4, h4 = mSR h3 a 5 (some (mN h2)) → Q none h4) : mC G kX7_init (d + 1) (b1 + 2, b2 + 512) [.inr (some a)] h Q := by
  refine mC_in rfl (Nat.le_of_ble_eq_true rfl) ?_
  show mW _ _ _ _ _ [some (.inr (some a))] _ _ _
  refine mw_aload_n (pc' := 1) dX7_init_0 rfl rfl ?_
  refine mw_objInit (pc' := 4) dX7_init_1 rfl lkX7_3 (Nat.le_of_ble_eq_true rfl) ?_
  refine mw_aload_n (pc' := 5) dX7_init_4 rfl rfl ?_
  refine mw_sipush (pc' := 8) (v := 256) dX7_init_5 rfl (by decide) ?_
  refine mw_newaC (pc' := 10) (b1 := b1 + 1) (b2 := b2 + 256) (n := 256) (t := 0) dX7_init_8 rfl (by decide) (by decide) (by decide) (by decide) rfl (fun h1 eh1 => ?_)
  replace K := K h1 eh1
  have ta : mT h1 a = 8 := mT_Al_lt eh1 lta ta
  have lta : a < mN h1 := mN_Al_lt eh1 lta
  refine mw_putRC (pc' := 13) dX7_init_10 rfl flX7_9 rfl (Or.inr ⟨rfl, rfl, rfl⟩) (ta) (fun h2 eh2 => ?_)
  replace K := K h2 eh2
  have ta : mT h2 a = 8 := by rw [eh2]; exact ta
  have lta : a < mN h2 := by rw [eh2]; exact lta
  refine mw_aload_n (pc' := 14) dX7_init_13 rfl rfl ?_
  refine mw_sipush (pc' := 17) (v := 256) dX7_init_14 rfl (by decide) ?_
  refine mw_newaC (pc' := 19) (b1 := b1) (b2 := b2) (n := 256) (t := 0) dX7_init_17 rfl (by decide) (by decide) (by decide) (by decide) rfl (fun h3 eh3 => ?_)
  replace K := K h3 eh3
  have ta : mT h3 a = 8 := mT_Al_lt eh3 lta ta
  have lta : a < mN h3 := mN_Al_lt eh3 lta
  refine mw_putRC (pc' := 22) dX7_init_19 rfl flX7_15 rfl (Or.inr ⟨rfl, rfl, rfl⟩) (ta) (fun h4 eh4 => ?_)
  replace K := K h4 eh4
  have ta : mT h4 a = 8 := by rw [eh4]; exact ta
  have lta : a < mN h4 := by rw [eh4]; exact lta
  exact mw_ret dX7_init_22 rfl K

set_option maxRecDepth 100000 in
set_option maxHeartbeats 4000000 in
theorem qX6_init {G : mG} {d : Nat} {b1 b2 : Nat} {h : mH} {Q : Option mV → mH → Prop} (a : Nat) (ta : mT h a = 7) (lta : a < mN h)
    (K : ∀ h1, h1 = mAl h 111 12 → ∀ h2, h2 = mSR h1 a 0 (some (mN h)) → ∀ h3, h3 = mSI h2 a 4 31 → ∀ h4, h4 = mSI h3 a 5 (-1) → ∀ h5, h5 = mAl h4 3 0 → mC G kX2_init (d + 2) (15, 459) [.inr (some (mN h4))] h5 (fun r h7 => r = none ∧ mT h7 a = 7 ∧ a < mN h7 ∧ mT h7 (mN h4) = 3 ∧ (mN h4) < mN h7 ∧ ∀ h8, h8 = mSR h7 a 6 (some (mN h4)) → ∀ h9, h9 = mAl h8 100 32 → ∀ h10, h10 = mSR h9 a 7 (some (mN h8)) → ∀ h11, h11 = mAl h10 100 128 → ∀ h12, h12 = mSR h11 a 8 (some (mN h10)) → ∀ h13, h13 = mAl h12 100 32 → ∀ h14, h14 = mSR h13 a 9 (some (mN h12)) → Q none h14)) : mC G kX6_init (d + 3) (b1 + 20, b2 + 671) [.inr (some a)] h Q := by
  refine mC_in rfl (Nat.le_of_ble_eq_true rfl) ?_
  show mW _ _ _ _ _ [some (.inr (some a))] _ _ _
  refine mw_aload_n (pc' := 1) dX6_init_0 rfl rfl ?_
  refine mw_objInit (pc' := 4) dX6_init_1 rfl lkX6_3 (Nat.le_of_ble_eq_true rfl) ?_
  refine mw_aload_n (pc' := 5) dX6_init_4 rfl rfl ?_
  refine mw_bipush (pc' := 7) (v := 12) dX6_init_5 rfl (by decide) ?_
  refine mw_anewC (pc' := 10) (b1 := b1 + 19) (b2 := b2 + 659) (n := 12) (t := 1) dX6_init_7 rfl (by decide) anX6_9 (by decide) (by decide) (by decide) rfl (fun h1 eh1 => ?_)
  replace K := K h1 eh1
  have ta : mT h1 a = 7 := mT_Al_lt eh1 lta ta
  have lta : a < mN h1 := mN_Al_lt eh1 lta
  refine mw_putRC (pc' := 13) dX6_init_10 rfl flX6_11 rfl (Or.inr ⟨rfl, rfl, rfl⟩) (ta) (fun h2 eh2 => ?_)
  replace K := K h2 eh2
  have ta : mT h2 a = 7 := by rw [eh2]; exact ta
  have lta : a < mN h2 := by rw [eh2]; exact lta
  refine mw_aload_n (pc' := 14) dX6_init_13 rfl rfl ?_
  refine mw_bipush (pc' := 16) (v := 31) dX6_init_14 rfl (by decide) ?_
  refine mw_putIC (pc' := 19) dX6_init_16 rfl flX6_17 rfl (Or.inl rfl) ⟨rfl, rfl⟩ (ta) (fun h3 eh3 => ?_)
  replace K := K h3 eh3
  have ta : mT h3 a = 7 := by rw [eh3]; exact ta
  have lta : a < mN h3 := by rw [eh3]; exact lta
  refine mw_aload_n (pc' := 20) dX6_init_19 rfl rfl ?_
  refine mw_iconst (pc' := 21) (v := (-1)) dX6_init_20 rfl (by decide) ?_
  refine mw_putIC (pc' := 24) dX6_init_21 rfl flX6_21 rfl (Or.inl rfl) ⟨rfl, rfl⟩ (ta) (fun h4 eh4 => ?_)
  replace K := K h4 eh4
  have ta : mT h4 a = 7 := by rw [eh4]; exact ta
  have lta : a < mN h4 := by rw [eh4]; exact lta
  refine mw_aload_n (pc' := 25) dX6_init_24 rfl rfl ?_
  refine mw_newC (pc' := 28) (b1 := b1 + 18) (b2 := b2 + 651) (ci := 2) (N := 8) dX6_init_25 rfl rfl nwX6_24 (by decide) rfl (fun h5 eh5 => ?_)
  replace K := K h5 eh5
  have ta : mT h5 a = 7 := mT_Al_lt eh5 lta ta
  have lta : a < mN h5 := mN_Al_lt eh5 lta
  have tn6 : mT h5 (mN h4) = 3 := by rw [eh5]; exact mAl_T
  have ltn6 : mN h4 < mN h5 := by rw [eh5]; exact Nat.lt_succ_self _
  refine mw_dup (pc' := 29) dX6_init_28 rfl ?_
  refine mw_callI (pc' := 32) (b' := (15, 459)) (b1 := (b1 + 3, b2 + 192)) (av := []) (rest := [.inr (some (mN h4)), .inr (some a)]) dX6_init_29 rfl lkX6_26 rfl rfl (Nat.le_of_ble_eq_true rfl) ⟨by dsimp only; omega, by dsimp only; omega⟩ ?_
  refine mC_mono (fun r h7 hr => ?_) K
  obtain ⟨rfl, ta, lta, tn6, ltn6, K⟩ := hr
  show mW _ _ _ _ _ _ [.inr (some (mN h4)), .inr (some a)] _ _
  refine mw_putRC (pc' := 35) dX6_init_32 rfl flX6_27 rfl (Or.inr ⟨rfl, rfl, rfl⟩) (ta) (fun h8 eh8 => ?_)
  replace K := K h8 eh8
  have ta : mT h8 a = 7 := by rw [eh8]; exact ta
  have lta : a < mN h8 := by rw [eh8]; exact lta
  have tn6 : mT h8 (mN h4) = 3 := by rw [eh8]; exact tn6
  have ltn6 : (mN h4) < mN h8 := by rw [eh8]; exact ltn6
  refine mw_aload_n (pc' := 36) dX6_init_35 rfl rfl ?_
  refine mw_bipush (pc' := 38) (v := 32) dX6_init_36 rfl (by decide) ?_
  refine mw_newaC (pc' := 40) (b1 := b1 + 2) (b2 := b2 + 160) (n := 32) (t := 0) dX6_init_38 rfl (by decide) (by decide) (by decide) (by decide) rfl (fun h9 eh9 => ?_)
  replace K := K h9 eh9
  have ta : mT h9 a = 7 := mT_Al_lt eh9 lta ta
  have lta : a < mN h9 := mN_Al_lt eh9 lta
  have tn6 : mT h9 (mN h4) = 3 := mT_Al_lt eh9 ltn6 tn6
  have ltn6 : (mN h4) < mN h9 := mN_Al_lt eh9 ltn6
  refine mw_putRC (pc' := 43) dX6_init_40 rfl flX6_31 rfl (Or.inr ⟨rfl, rfl, rfl⟩) (ta) (fun h10 eh10 => ?_)
  replace K := K h10 eh10
  have ta : mT h10 a = 7 := by rw [eh10]; exact ta
  have lta : a < mN h10 := by rw [eh10]; exact lta
  have tn6 : mT h10 (mN h4) = 3 := by rw [eh10]; exact tn6
  have ltn6 : (mN h4) < mN h10 := by rw [eh10]; exact ltn6
  refine mw_aload_n (pc' := 44) dX6_init_43 rfl rfl ?_
  refine mw_sipush (pc' := 47) (v := 128) dX6_init_44 rfl (by decide) ?_
  refine mw_newaC (pc' := 49) (b1 := b1 + 1) (b2 := b2 + 32) (n := 128) (t := 0) dX6_init_47 rfl (by decide) (by decide) (by decide) (by decide) rfl (fun h11 eh11 => ?_)
  replace K := K h11 eh11
  have ta : mT h11 a = 7 := mT_Al_lt eh11 lta ta
  have lta : a < mN h11 := mN_Al_lt eh11 lta
  have tn6 : mT h11 (mN h4) = 3 := mT_Al_lt eh11 ltn6 tn6
  have ltn6 : (mN h4) < mN h11 := mN_Al_lt eh11 ltn6
  refine mw_putRC (pc' := 52) dX6_init_49 rfl flX6_35 rfl (Or.inr ⟨rfl, rfl, rfl⟩) (ta) (fun h12 eh12 => ?_)
  replace K := K h12 eh12
  have ta : mT h12 a = 7 := by rw [eh12]; exact ta
  have lta : a < mN h12 := by rw [eh12]; exact lta
  have tn6 : mT h12 (mN h4) = 3 := by rw [eh12]; exact tn6
  have ltn6 : (mN h4) < mN h12 := by rw [eh12]; exact ltn6
  refine mw_aload_n (pc' := 53) dX6_init_52 rfl rfl ?_
  refine mw_bipush (pc' := 55) (v := 32) dX6_init_53 rfl (by decide) ?_
  refine mw_newaC (pc' := 57) (b1 := b1) (b2 := b2) (n := 32) (t := 0) dX6_init_55 rfl (by decide) (by decide) (by decide) (by decide) rfl (fun h13 eh13 => ?_)
  replace K := K h13 eh13
  have ta : mT h13 a = 7 := mT_Al_lt eh13 lta ta
  have lta : a < mN h13 := mN_Al_lt eh13 lta
  have tn6 : mT h13 (mN h4) = 3 := mT_Al_lt eh13 ltn6 tn6
  have ltn6 : (mN h4) < mN h13 := mN_Al_lt eh13 ltn6
  refine mw_putRC (pc' := 60) dX6_init_57 rfl flX6_38 rfl (Or.inr ⟨rfl, rfl, rfl⟩) (ta) (fun h14 eh14 => ?_)
  replace K := K h14 eh14
  have ta : mT h14 a = 7 := by rw [eh14]; exact ta
  have lta : a < mN h14 := by rw [eh14]; exact lta
  have tn6 : mT h14 (mN h4) = 3 := by rw [eh14]; exact tn6
  have ltn6 : (mN h4) < mN h14 := by rw [eh14]; exact ltn6
  exact mw_ret dX6_init_60 rfl K

set_option maxRecDepth 100000 in
set_option maxHeartbeats 4000000 in
theorem qX0_init {G : mG} {d : Nat} {b1 b2 : Nat} {h : mH} {Q : Option mV → mH → Prop} (a : Nat) (ta : mT h a = 1) (lta : a < mN h)
    (K : ∀ h1, h1 = mAl h 110 8 → ∀ h2, h2 = mSR h1 a 0 (some (mN h)) → ∀ h3, h3 = mAl h2 100 32 → ∀ h4, h4 = mSR h3 a 3 (some (mN h2)) → ∀ h5, h5 = mAl h4 100 32 → ∀ h6, h6 = mSR h5 a 4 (some (mN h4)) → ∀ h7, h7 = mAl h6 100 32 → ∀ h8, h8 = mSR h7 a 5 (some (mN h6)) → Q none h8) : mC G kX0_init (d + 1) (b1 + 4, b2 + 104) [.inr (some a)] h Q := by
  refine mC_in rfl (Nat.le_of_ble_eq_true rfl) ?_
  show mW _ _ _ _ _ [some (.inr (some a))] _ _ _
  refine mw_aload_n (pc' := 1) dX0_init_0 rfl rfl ?_
  refine mw_objInit (pc' := 4) dX0_init_1 rfl lkX0_3 (Nat.le_of_ble_eq_true rfl) ?_
  refine mw_aload_n (pc' := 5) dX0_init_4 rfl rfl ?_
  refine mw_bipush (pc' := 7) (v := 8) dX0_init_5 rfl (by decide) ?_
  refine mw_anewC (pc' := 10) (b1 := b1 + 3) (b2 := b2 + 96) (n := 8) (t := 0) dX0_init_7 rfl (by decide) anX0_9 (by decide) (by decide) (by decide) rfl (fun h1 eh1 => ?_)
  replace K := K h1 eh1
  have ta : mT h1 a = 1 := mT_Al_lt eh1 lta ta
  have lta : a < mN h1 := mN_Al_lt eh1 lta
  refine mw_putRC (pc' := 13) dX0_init_10 rfl flX0_11 rfl (Or.inr ⟨rfl, rfl, rfl⟩) (ta) (fun h2 eh2 => ?_)
  replace K := K h2 eh2
  have ta : mT h2 a = 1 := by rw [eh2]; exact ta
  have lta : a < mN h2 := by rw [eh2]; exact lta
  refine mw_aload_n (pc' := 14) dX0_init_13 rfl rfl ?_
  refine mw_bipush (pc' := 16) (v := 32) dX0_init_14 rfl (by decide) ?_
  refine mw_newaC (pc' := 18) (b1 := b1 + 2) (b2 := b2 + 64) (n := 32) (t := 0) dX0_init_16 rfl (by decide) (by decide) (by decide) (by decide) rfl (fun h3 eh3 => ?_)
  replace K := K h3 eh3
  have ta : mT h3 a = 1 := mT_Al_lt eh3 lta ta
  have lta : a < mN h3 := mN_Al_lt eh3 lta
  refine mw_putRC (pc' := 21) dX0_init_18 rfl flX0_17 rfl (Or.inr ⟨rfl, rfl, rfl⟩) (ta) (fun h4 eh4 => ?_)
  replace K := K h4 eh4
  have ta : mT h4 a = 1 := by rw [eh4]; exact ta
  have lta : a < mN h4 := by rw [eh4]; exact lta
  refine mw_aload_n (pc' := 22) dX0_init_21 rfl rfl ?_
  refine mw_bipush (pc' := 24) (v := 32) dX0_init_22 rfl (by decide) ?_
  refine mw_newaC (pc' := 26) (b1 := b1 + 1) (b2 := b2 + 32) (n := 32) (t := 0) dX0_init_24 rfl (by decide) (by decide) (by decide) (by decide) rfl (fun h5 eh5 => ?_)
  replace K := K h5 eh5
  have ta : mT h5 a = 1 := mT_Al_lt eh5 lta ta
  have lta : a < mN h5 := mN_Al_lt eh5 lta
  refine mw_putRC (pc' := 29) dX0_init_26 rfl flX0_21 rfl (Or.inr ⟨rfl, rfl, rfl⟩) (ta) (fun h6 eh6 => ?_)
  replace K := K h6 eh6
  have ta : mT h6 a = 1 := by rw [eh6]; exact ta
  have lta : a < mN h6 := by rw [eh6]; exact lta
  refine mw_aload_n (pc' := 30) dX0_init_29 rfl rfl ?_
  refine mw_bipush (pc' := 32) (v := 32) dX0_init_30 rfl (by decide) ?_
  refine mw_newaC (pc' := 34) (b1 := b1) (b2 := b2) (n := 32) (t := 0) dX0_init_32 rfl (by decide) (by decide) (by decide) (by decide) rfl (fun h7 eh7 => ?_)
  replace K := K h7 eh7
  have ta : mT h7 a = 1 := mT_Al_lt eh7 lta ta
  have lta : a < mN h7 := mN_Al_lt eh7 lta
  refine mw_putRC (pc' := 37) dX0_init_34 rfl flX0_24 rfl (Or.inr ⟨rfl, rfl, rfl⟩) (ta) (fun h8 eh8 => ?_)
  replace K := K h8 eh8
  have ta : mT h8 a = 1 := by rw [eh8]; exact ta
  have lta : a < mN h8 := by rw [eh8]; exact lta
  exact mw_ret dX0_init_37 rfl K

set_option maxRecDepth 100000 in
set_option maxHeartbeats 4000000 in
theorem qX10_init {G : mG} {d : Nat} {b1 b2 : Nat} {h : mH} {Q : Option mV → mH → Prop} (a : Nat) (ta : mT h a = 11) (lta : a < mN h)
    (K : ∀ h1, h1 = mAl h 100 4096 → ∀ h2, h2 = mSR h1 a 0 (some (mN h)) → ∀ h3, h3 = mAl h2 100 100 → ∀ h4, h4 = mSR h3 a 1 (some (mN h2)) → Q none h4) : mC G kX10_init (d + 1) (b1 + 2, b2 + 4196) [.inr (some a)] h Q := by
  refine mC_in rfl (Nat.le_of_ble_eq_true rfl) ?_
  show mW _ _ _ _ _ [some (.inr (some a))] _ _ _
  refine mw_aload_n (pc' := 1) dX10_init_0 rfl rfl ?_
  refine mw_objInit (pc' := 4) dX10_init_1 rfl lkX10_3 (Nat.le_of_ble_eq_true rfl) ?_
  refine mw_aload_n (pc' := 5) dX10_init_4 rfl rfl ?_
  refine mw_sipush (pc' := 8) (v := 4096) dX10_init_5 rfl (by decide) ?_
  refine mw_newaC (pc' := 10) (b1 := b1 + 1) (b2 := b2 + 100) (n := 4096) (t := 0) dX10_init_8 rfl (by decide) (by decide) (by decide) (by decide) rfl (fun h1 eh1 => ?_)
  replace K := K h1 eh1
  have ta : mT h1 a = 11 := mT_Al_lt eh1 lta ta
  have lta : a < mN h1 := mN_Al_lt eh1 lta
  refine mw_putRC (pc' := 13) dX10_init_10 rfl flX10_9 rfl (Or.inr ⟨rfl, rfl, rfl⟩) (ta) (fun h2 eh2 => ?_)
  replace K := K h2 eh2
  have ta : mT h2 a = 11 := by rw [eh2]; exact ta
  have lta : a < mN h2 := by rw [eh2]; exact lta
  refine mw_aload_n (pc' := 14) dX10_init_13 rfl rfl ?_
  refine mw_bipush (pc' := 16) (v := 100) dX10_init_14 rfl (by decide) ?_
  refine mw_newaC (pc' := 18) (b1 := b1) (b2 := b2) (n := 100) (t := 0) dX10_init_16 rfl (by decide) (by decide) (by decide) (by decide) rfl (fun h3 eh3 => ?_)
  replace K := K h3 eh3
  have ta : mT h3 a = 11 := mT_Al_lt eh3 lta ta
  have lta : a < mN h3 := mN_Al_lt eh3 lta
  refine mw_putRC (pc' := 21) dX10_init_18 rfl flX10_15 rfl (Or.inr ⟨rfl, rfl, rfl⟩) (ta) (fun h4 eh4 => ?_)
  replace K := K h4 eh4
  have ta : mT h4 a = 11 := by rw [eh4]; exact ta
  have lta : a < mN h4 := by rw [eh4]; exact lta
  exact mw_ret dX10_init_21 rfl K

set_option maxRecDepth 100000 in
set_option maxHeartbeats 4000000 in
theorem qX8_init {G : mG} {d : Nat} {b1 b2 : Nat} {h : mH} {Q : Option mV → mH → Prop} (a : Nat) (ta : mT h a = 9) (lta : a < mN h)
    (K : ∀ h1, h1 = mAl h 100 6 → ∀ h2, h2 = mSR h1 a 0 (some (mN h)) → ∀ h3, h3 = mAl h2 100 6 → ∀ h4, h4 = mSR h3 a 1 (some (mN h2)) → ∀ h5, h5 = mAl h4 100 6 → ∀ h6, h6 = mSR h5 a 2 (some (mN h4)) → ∀ h7, h7 = mAl h6 100 32 → ∀ h8, h8 = mSR h7 a 10 (some (mN h6)) → ∀ h9, h9 = mAl h8 100 1024 → ∀ h10, h10 = mSR h9 a 11 (some (mN h8)) → Q none h10) : mC G kX8_init (d + 1) (b1 + 5, b2 + 1074) [.inr (some a)] h Q := by
  refine mC_in rfl (Nat.le_of_ble_eq_true rfl) ?_
  show mW _ _ _ _ _ [some (.inr (some a))] _ _ _
  refine mw_aload_n (pc' := 1) dX8_init_0 rfl rfl ?_
  refine mw_objInit (pc' := 4) dX8_init_1 rfl lkX8_3 (Nat.le_of_ble_eq_true rfl) ?_
  refine mw_aload_n (pc' := 5) dX8_init_4 rfl rfl ?_
  refine mw_bipush (pc' := 7) (v := 6) dX8_init_5 rfl (by decide) ?_
  refine mw_newaC (pc' := 9) (b1 := b1 + 4) (b2 := b2 + 1068) (n := 6) (t := 0) dX8_init_7 rfl (by decide) (by decide) (by decide) (by decide) rfl (fun h1 eh1 => ?_)
  replace K := K h1 eh1
  have ta : mT h1 a = 9 := mT_Al_lt eh1 lta ta
  have lta : a < mN h1 := mN_Al_lt eh1 lta
  refine mw_putRC (pc' := 12) dX8_init_9 rfl flX8_9 rfl (Or.inr ⟨rfl, rfl, rfl⟩) (ta) (fun h2 eh2 => ?_)
  replace K := K h2 eh2
  have ta : mT h2 a = 9 := by rw [eh2]; exact ta
  have lta : a < mN h2 := by rw [eh2]; exact lta
  refine mw_aload_n (pc' := 13) dX8_init_12 rfl rfl ?_
  refine mw_bipush (pc' := 15) (v := 6) dX8_init_13 rfl (by decide) ?_
  refine mw_newaC (pc' := 17) (b1 := b1 + 3) (b2 := b2 + 1062) (n := 6) (t := 0) dX8_init_15 rfl (by decide) (by decide) (by decide) (by decide) rfl (fun h3 eh3 => ?_)
  replace K := K h3 eh3
  have ta : mT h3 a = 9 := mT_Al_lt eh3 lta ta
  have lta : a < mN h3 := mN_Al_lt eh3 lta
  refine mw_putRC (pc' := 20) dX8_init_17 rfl flX8_15 rfl (Or.inr ⟨rfl, rfl, rfl⟩) (ta) (fun h4 eh4 => ?_)
  replace K := K h4 eh4
  have ta : mT h4 a = 9 := by rw [eh4]; exact ta
  have lta : a < mN h4 := by rw [eh4]; exact lta
  refine mw_aload_n (pc' := 21) dX8_init_20 rfl rfl ?_
  refine mw_bipush (pc' := 23) (v := 6) dX8_init_21 rfl (by decide) ?_
  refine mw_newaC (pc' := 25) (b1 := b1 + 2) (b2 := b2 + 1056) (n := 6) (t := 0) dX8_init_23 rfl (by decide) (by decide) (by decide) (by decide) rfl (fun h5 eh5 => ?_)
  replace K := K h5 eh5
  have ta : mT h5 a = 9 := mT_Al_lt eh5 lta ta
  have lta : a < mN h5 := mN_Al_lt eh5 lta
  refine mw_putRC (pc' := 28) dX8_init_25 rfl flX8_18 rfl (Or.inr ⟨rfl, rfl, rfl⟩) (ta) (fun h6 eh6 => ?_)
  replace K := K h6 eh6
  have ta : mT h6 a = 9 := by rw [eh6]; exact ta
  have lta : a < mN h6 := by rw [eh6]; exact lta
  refine mw_aload_n (pc' := 29) dX8_init_28 rfl rfl ?_
  refine mw_bipush (pc' := 31) (v := 32) dX8_init_29 rfl (by decide) ?_
  refine mw_newaC (pc' := 33) (b1 := b1 + 1) (b2 := b2 + 1024) (n := 32) (t := 0) dX8_init_31 rfl (by decide) (by decide) (by decide) (by decide) rfl (fun h7 eh7 => ?_)
  replace K := K h7 eh7
  have ta : mT h7 a = 9 := mT_Al_lt eh7 lta ta
  have lta : a < mN h7 := mN_Al_lt eh7 lta
  refine mw_putRC (pc' := 36) dX8_init_33 rfl flX8_21 rfl (Or.inr ⟨rfl, rfl, rfl⟩) (ta) (fun h8 eh8 => ?_)
  replace K := K h8 eh8
  have ta : mT h8 a = 9 := by rw [eh8]; exact ta
  have lta : a < mN h8 := by rw [eh8]; exact lta
  refine mw_aload_n (pc' := 37) dX8_init_36 rfl rfl ?_
  refine mw_sipush (pc' := 40) (v := 1024) dX8_init_37 rfl (by decide) ?_
  refine mw_newaC (pc' := 42) (b1 := b1) (b2 := b2) (n := 1024) (t := 0) dX8_init_40 rfl (by decide) (by decide) (by decide) (by decide) rfl (fun h9 eh9 => ?_)
  replace K := K h9 eh9
  have ta : mT h9 a = 9 := mT_Al_lt eh9 lta ta
  have lta : a < mN h9 := mN_Al_lt eh9 lta
  refine mw_putRC (pc' := 45) dX8_init_42 rfl flX8_24 rfl (Or.inr ⟨rfl, rfl, rfl⟩) (ta) (fun h10 eh10 => ?_)
  replace K := K h10 eh10
  have ta : mT h10 a = 9 := by rw [eh10]; exact ta
  have lta : a < mN h10 := by rw [eh10]; exact lta
  exact mw_ret dX8_init_45 rfl K

set_option maxRecDepth 100000 in
set_option maxHeartbeats 4000000 in
theorem qX1_init {G : mG} {d : Nat} {b1 b2 : Nat} {h : mH} {Q : Option mV → mH → Prop} (a : Nat) (v1 : Int32) (v2 : Int32) (ta : mT h a = 2) (lta : a < mN h)
    (K : ∀ h1, h1 = mAl h 100 32 → ∀ h2, h2 = mSR h1 a 5 (some (mN h)) → ∀ h3, h3 = mAl h2 100 32 → ∀ h4, h4 = mSR h3 a 6 (some (mN h2)) → ∀ h5, h5 = mAl h4 100 4096 → ∀ h6, h6 = mSR h5 a 7 (some (mN h4)) → ∀ h7, h7 = mAl h6 101 4 → ∀ h8, h8 = mSR h7 a 8 (some (mN h6)) → ∀ h9, h9 = mAl h8 100 1536 → ∀ h10, h10 = mSR h9 a 9 (some (mN h8)) → ∀ h11, h11 = mSI h10 a 0 v1 → ∀ h12, h12 = mSI h11 a 1 v2 → ∀ h13, h13 = mAl h12 100 16 → ∀ h14, h14 = mSR h13 a 2 (some (mN h12)) → ∀ h15, h15 = mAl h14 100 16 → ∀ h16, h16 = mSR h15 a 3 (some (mN h14)) → ∀ h17, h17 = mAl h16 100 16 → ∀ h18, h18 = mSR h17 a 4 (some (mN h16)) → Q none h18) : mC G kX1_init (d + 1) (b1 + 8, b2 + 5748) [.inr (some a), .inl v1, .inl v2] h Q := by
  refine mC_in rfl (Nat.le_of_ble_eq_true rfl) ?_
  show mW _ _ _ _ _ [some (.inr (some a)), some (.inl v1), some (.inl v2)] _ _ _
  refine mw_aload_n (pc' := 1) dX1_init_0 rfl rfl ?_
  refine mw_objInit (pc' := 4) dX1_init_1 rfl lkX1_3 (Nat.le_of_ble_eq_true rfl) ?_
  refine mw_aload_n (pc' := 5) dX1_init_4 rfl rfl ?_
  refine mw_bipush (pc' := 7) (v := 32) dX1_init_5 rfl (by decide) ?_
  refine mw_newaC (pc' := 9) (b1 := b1 + 7) (b2 := b2 + 5716) (n := 32) (t := 0) dX1_init_7 rfl (by decide) (by decide) (by decide) (by decide) rfl (fun h1 eh1 => ?_)
  replace K := K h1 eh1
  have ta : mT h1 a = 2 := mT_Al_lt eh1 lta ta
  have lta : a < mN h1 := mN_Al_lt eh1 lta
  refine mw_putRC (pc' := 12) dX1_init_9 rfl flX1_9 rfl (Or.inr ⟨rfl, rfl, rfl⟩) (ta) (fun h2 eh2 => ?_)
  replace K := K h2 eh2
  have ta : mT h2 a = 2 := by rw [eh2]; exact ta
  have lta : a < mN h2 := by rw [eh2]; exact lta
  refine mw_aload_n (pc' := 13) dX1_init_12 rfl rfl ?_
  refine mw_bipush (pc' := 15) (v := 32) dX1_init_13 rfl (by decide) ?_
  refine mw_newaC (pc' := 17) (b1 := b1 + 6) (b2 := b2 + 5684) (n := 32) (t := 0) dX1_init_15 rfl (by decide) (by decide) (by decide) (by decide) rfl (fun h3 eh3 => ?_)
  replace K := K h3 eh3
  have ta : mT h3 a = 2 := mT_Al_lt eh3 lta ta
  have lta : a < mN h3 := mN_Al_lt eh3 lta
  refine mw_putRC (pc' := 20) dX1_init_17 rfl flX1_15 rfl (Or.inr ⟨rfl, rfl, rfl⟩) (ta) (fun h4 eh4 => ?_)
  replace K := K h4 eh4
  have ta : mT h4 a = 2 := by rw [eh4]; exact ta
  have lta : a < mN h4 := by rw [eh4]; exact lta
  refine mw_aload_n (pc' := 21) dX1_init_20 rfl rfl ?_
  refine mw_sipush (pc' := 24) (v := 4096) dX1_init_21 rfl (by decide) ?_
  refine mw_newaC (pc' := 26) (b1 := b1 + 5) (b2 := b2 + 1588) (n := 4096) (t := 0) dX1_init_24 rfl (by decide) (by decide) (by decide) (by decide) rfl (fun h5 eh5 => ?_)
  replace K := K h5 eh5
  have ta : mT h5 a = 2 := mT_Al_lt eh5 lta ta
  have lta : a < mN h5 := mN_Al_lt eh5 lta
  refine mw_putRC (pc' := 29) dX1_init_26 rfl flX1_18 rfl (Or.inr ⟨rfl, rfl, rfl⟩) (ta) (fun h6 eh6 => ?_)
  replace K := K h6 eh6
  have ta : mT h6 a = 2 := by rw [eh6]; exact ta
  have lta : a < mN h6 := by rw [eh6]; exact lta
  refine mw_aload_n (pc' := 30) dX1_init_29 rfl rfl ?_
  refine mw_iconst (pc' := 31) (v := 4) dX1_init_30 rfl (by decide) ?_
  refine mw_newaC (pc' := 33) (b1 := b1 + 4) (b2 := b2 + 1584) (n := 4) (t := 1) dX1_init_31 rfl (by decide) (by decide) (by decide) (by decide) rfl (fun h7 eh7 => ?_)
  replace K := K h7 eh7
  have ta : mT h7 a = 2 := mT_Al_lt eh7 lta ta
  have lta : a < mN h7 := mN_Al_lt eh7 lta
  refine mw_putRC (pc' := 36) dX1_init_33 rfl flX1_21 rfl (Or.inr ⟨rfl, rfl, rfl⟩) (ta) (fun h8 eh8 => ?_)
  replace K := K h8 eh8
  have ta : mT h8 a = 2 := by rw [eh8]; exact ta
  have lta : a < mN h8 := by rw [eh8]; exact lta
  refine mw_aload_n (pc' := 37) dX1_init_36 rfl rfl ?_
  refine mw_sipush (pc' := 40) (v := 1536) dX1_init_37 rfl (by decide) ?_
  refine mw_newaC (pc' := 42) (b1 := b1 + 3) (b2 := b2 + 48) (n := 1536) (t := 0) dX1_init_40 rfl (by decide) (by decide) (by decide) (by decide) rfl (fun h9 eh9 => ?_)
  replace K := K h9 eh9
  have ta : mT h9 a = 2 := mT_Al_lt eh9 lta ta
  have lta : a < mN h9 := mN_Al_lt eh9 lta
  refine mw_putRC (pc' := 45) dX1_init_42 rfl flX1_25 rfl (Or.inr ⟨rfl, rfl, rfl⟩) (ta) (fun h10 eh10 => ?_)
  replace K := K h10 eh10
  have ta : mT h10 a = 2 := by rw [eh10]; exact ta
  have lta : a < mN h10 := by rw [eh10]; exact lta
  refine mw_aload_n (pc' := 46) dX1_init_45 rfl rfl ?_
  refine mw_iload_n (pc' := 47) dX1_init_46 rfl rfl ?_
  refine mw_putIC (pc' := 50) dX1_init_47 rfl flX1_28 rfl (Or.inr ⟨rfl, rfl, rfl⟩) ⟨rfl, rfl⟩ (ta) (fun h11 eh11 => ?_)
  replace K := K h11 eh11
  have ta : mT h11 a = 2 := by rw [eh11]; exact ta
  have lta : a < mN h11 := by rw [eh11]; exact lta
  refine mw_aload_n (pc' := 51) dX1_init_50 rfl rfl ?_
  refine mw_iload_n (pc' := 52) dX1_init_51 rfl rfl ?_
  refine mw_putIC (pc' := 55) dX1_init_52 rfl flX1_32 rfl (Or.inr ⟨rfl, rfl, rfl⟩) ⟨rfl, rfl⟩ (ta) (fun h12 eh12 => ?_)
  replace K := K h12 eh12
  have ta : mT h12 a = 2 := by rw [eh12]; exact ta
  have lta : a < mN h12 := by rw [eh12]; exact lta
  refine mw_aload_n (pc' := 56) dX1_init_55 rfl rfl ?_
  refine mw_bipush (pc' := 58) (v := 16) dX1_init_56 rfl (by decide) ?_
  refine mw_newaC (pc' := 60) (b1 := b1 + 2) (b2 := b2 + 32) (n := 16) (t := 0) dX1_init_58 rfl (by decide) (by decide) (by decide) (by decide) rfl (fun h13 eh13 => ?_)
  replace K := K h13 eh13
  have ta : mT h13 a = 2 := mT_Al_lt eh13 lta ta
  have lta : a < mN h13 := mN_Al_lt eh13 lta
  refine mw_putRC (pc' := 63) dX1_init_60 rfl flX1_35 rfl (Or.inr ⟨rfl, rfl, rfl⟩) (ta) (fun h14 eh14 => ?_)
  replace K := K h14 eh14
  have ta : mT h14 a = 2 := by rw [eh14]; exact ta
  have lta : a < mN h14 := by rw [eh14]; exact lta
  refine mw_aload_n (pc' := 64) dX1_init_63 rfl rfl ?_
  refine mw_bipush (pc' := 66) (v := 16) dX1_init_64 rfl (by decide) ?_
  refine mw_newaC (pc' := 68) (b1 := b1 + 1) (b2 := b2 + 16) (n := 16) (t := 0) dX1_init_66 rfl (by decide) (by decide) (by decide) (by decide) rfl (fun h15 eh15 => ?_)
  replace K := K h15 eh15
  have ta : mT h15 a = 2 := mT_Al_lt eh15 lta ta
  have lta : a < mN h15 := mN_Al_lt eh15 lta
  refine mw_putRC (pc' := 71) dX1_init_68 rfl flX1_38 rfl (Or.inr ⟨rfl, rfl, rfl⟩) (ta) (fun h16 eh16 => ?_)
  replace K := K h16 eh16
  have ta : mT h16 a = 2 := by rw [eh16]; exact ta
  have lta : a < mN h16 := by rw [eh16]; exact lta
  refine mw_aload_n (pc' := 72) dX1_init_71 rfl rfl ?_
  refine mw_bipush (pc' := 74) (v := 16) dX1_init_72 rfl (by decide) ?_
  refine mw_newaC (pc' := 76) (b1 := b1) (b2 := b2) (n := 16) (t := 0) dX1_init_74 rfl (by decide) (by decide) (by decide) (by decide) rfl (fun h17 eh17 => ?_)
  replace K := K h17 eh17
  have ta : mT h17 a = 2 := mT_Al_lt eh17 lta ta
  have lta : a < mN h17 := mN_Al_lt eh17 lta
  refine mw_putRC (pc' := 79) dX1_init_76 rfl flX1_41 rfl (Or.inr ⟨rfl, rfl, rfl⟩) (ta) (fun h18 eh18 => ?_)
  replace K := K h18 eh18
  have ta : mT h18 a = 2 := by rw [eh18]; exact ta
  have lta : a < mN h18 := by rw [eh18]; exact lta
  exact mw_ret dX1_init_79 rfl K

set_option maxRecDepth 100000 in
set_option maxHeartbeats 4000000 in
theorem qX11_init {G : mG} {d : Nat} {b1 b2 : Nat} {h : mH} {Q : Option mV → mH → Prop} (a : Nat) (ta : mT h a = 12) (lta : a < mN h)
    (K : ∀ h1, h1 = mAl h 10 0 → mC G kX9_init (d + 3) (1, 220) [.inr (some (mN h))] h1 (fun r h3 => r = none ∧ mT h3 a = 12 ∧ a < mN h3 ∧ mT h3 (mN h) = 10 ∧ (mN h) < mN h3 ∧ ∀ h4, h4 = mSR h3 a 0 (some (mN h)) → ∀ h5, h5 = mAl h4 5 0 → mC G kX4_init (d + 3) (1, 160) [.inr (some (mN h4))] h5 (fun r h7 => r = none ∧ mT h7 a = 12 ∧ a < mN h7 ∧ mT h7 (mN h) = 10 ∧ (mN h) < mN h7 ∧ mT h7 (mN h4) = 5 ∧ (mN h4) < mN h7 ∧ ∀ h8, h8 = mSR h7 a 1 (some (mN h4)) → ∀ h9, h9 = mAl h8 7 0 → mC G kX6_init (d + 3) (20, 671) [.inr (some (mN h8))] h9 (fun r h11 => r = none ∧ mT h11 a = 12 ∧ a < mN h11 ∧ mT h11 (mN h) = 10 ∧ (mN h) < mN h11 ∧ mT h11 (mN h4) = 5 ∧ (mN h4) < mN h11 ∧ mT h11 (mN h8) = 7 ∧ (mN h8) < mN h11 ∧ ∀ h12, h12 = mSR h11 a 2 (some (mN h8)) → ∃ y13, mR h12 a 2 = some y13 ∧ mT h12 y13 = 7 ∧ y13 < mN h12 ∧ ∀ h14, h14 = mSR h12 a 3 (mR h12 y13 6) → ∀ h15, h15 = mAl h14 1 0 → mC G kX0_init (d + 3) (4, 104) [.inr (some (mN h14))] h15 (fun r h17 => r = none ∧ mT h17 a = 12 ∧ a < mN h17 ∧ mT h17 (mN h) = 10 ∧ (mN h) < mN h17 ∧ mT h17 (mN h4) = 5 ∧ (mN h4) < mN h17 ∧ mT h17 (mN h8) = 7 ∧ (mN h8) < mN h17 ∧ mT h17 y13 = 7 ∧ y13 < mN h17 ∧ mT h17 (mN h14) = 1 ∧ (mN h14) < mN h17 ∧ ∀ h18, h18 = mSR h17 a 4 (some (mN h14)) → ∀ h19, h19 = mAl h18 11 0 → mC G kX10_init (d + 3) (2, 4196) [.inr (some (mN h18))] h19 (fun r h21 => r = none ∧ mT h21 a = 12 ∧ a < mN h21 ∧ mT h21 (mN h) = 10 ∧ (mN h) < mN h21 ∧ mT h21 (mN h4) = 5 ∧ (mN h4) < mN h21 ∧ mT h21 (mN h8) = 7 ∧ (mN h8) < mN h21 ∧ mT h21 y13 = 7 ∧ y13 < mN h21 ∧ mT h21 (mN h14) = 1 ∧ (mN h14) < mN h21 ∧ mT h21 (mN h18) = 11 ∧ (mN h18) < mN h21 ∧ ∀ h22, h22 = mSR h21 a 5 (some (mN h18)) → ∀ h23, h23 = mAl h22 9 0 → mC G kX8_init (d + 3) (5, 1074) [.inr (some (mN h22))] h23 (fun r h25 => r = none ∧ mT h25 a = 12 ∧ a < mN h25 ∧ mT h25 (mN h) = 10 ∧ (mN h) < mN h25 ∧ mT h25 (mN h4) = 5 ∧ (mN h4) < mN h25 ∧ mT h25 (mN h8) = 7 ∧ (mN h8) < mN h25 ∧ mT h25 y13 = 7 ∧ y13 < mN h25 ∧ mT h25 (mN h14) = 1 ∧ (mN h14) < mN h25 ∧ mT h25 (mN h18) = 11 ∧ (mN h18) < mN h25 ∧ mT h25 (mN h22) = 9 ∧ (mN h22) < mN h25 ∧ ∀ h26, h26 = mSR h25 a 6 (some (mN h22)) → ∀ h27, h27 = mSI h26 a 7 1 → Q none h27))))))) : mC G kX11_init (d + 4) (b1 + 39, b2 + 6474) [.inr (some a)] h Q := by
  refine mC_in rfl (Nat.le_of_ble_eq_true rfl) ?_
  show mW _ _ _ _ _ [some (.inr (some a))] _ _ _
  refine mw_aload_n (pc' := 1) dX11_init_0 rfl rfl ?_
  refine mw_objInit (pc' := 4) dX11_init_1 rfl lkX11_3 (Nat.le_of_ble_eq_true rfl) ?_
  refine mw_aload_n (pc' := 5) dX11_init_4 rfl rfl ?_
  refine mw_newC (pc' := 8) (b1 := b1 + 38) (b2 := b2 + 6472) (ci := 9) (N := 2) dX11_init_5 rfl rfl nwX11_9 (by decide) rfl (fun h1 eh1 => ?_)
  replace K := K h1 eh1
  have ta : mT h1 a = 12 := mT_Al_lt eh1 lta ta
  have lta : a < mN h1 := mN_Al_lt eh1 lta
  have tn2 : mT h1 (mN h) = 10 := by rw [eh1]; exact mAl_T
  have ltn2 : mN h < mN h1 := by rw [eh1]; exact Nat.lt_succ_self _
  refine mw_dup (pc' := 9) dX11_init_8 rfl ?_
  refine mw_callI (pc' := 12) (b' := (1, 220)) (b1 := (b1 + 37, b2 + 6252)) (av := []) (rest := [.inr (some (mN h)), .inr (some a)]) dX11_init_9 rfl lkX11_11 rfl rfl (Nat.le_of_ble_eq_true rfl) ⟨by dsimp only; omega, by dsimp only; omega⟩ ?_
  refine mC_mono (fun r h3 hr => ?_) K
  obtain ⟨rfl, ta, lta, tn2, ltn2, K⟩ := hr
  show mW _ _ _ _ _ _ [.inr (some (mN h)), .inr (some a)] _ _
  refine mw_putRC (pc' := 15) dX11_init_12 rfl flX11_12 rfl (Or.inr ⟨rfl, rfl, rfl⟩) (ta) (fun h4 eh4 => ?_)
  replace K := K h4 eh4
  have ta : mT h4 a = 12 := by rw [eh4]; exact ta
  have lta : a < mN h4 := by rw [eh4]; exact lta
  have tn2 : mT h4 (mN h) = 10 := by rw [eh4]; exact tn2
  have ltn2 : (mN h) < mN h4 := by rw [eh4]; exact ltn2
  refine mw_aload_n (pc' := 16) dX11_init_15 rfl rfl ?_
  refine mw_newC (pc' := 19) (b1 := b1 + 36) (b2 := b2 + 6247) (ci := 4) (N := 5) dX11_init_16 rfl rfl nwX11_16 (by decide) rfl (fun h5 eh5 => ?_)
  replace K := K h5 eh5
  have ta : mT h5 a = 12 := mT_Al_lt eh5 lta ta
  have lta : a < mN h5 := mN_Al_lt eh5 lta
  have tn2 : mT h5 (mN h) = 10 := mT_Al_lt eh5 ltn2 tn2
  have ltn2 : (mN h) < mN h5 := mN_Al_lt eh5 ltn2
  have tn6 : mT h5 (mN h4) = 5 := by rw [eh5]; exact mAl_T
  have ltn6 : mN h4 < mN h5 := by rw [eh5]; exact Nat.lt_succ_self _
  refine mw_dup (pc' := 20) dX11_init_19 rfl ?_
  refine mw_callI (pc' := 23) (b' := (1, 160)) (b1 := (b1 + 35, b2 + 6087)) (av := []) (rest := [.inr (some (mN h4)), .inr (some a)]) dX11_init_20 rfl lkX11_18 rfl rfl (Nat.le_of_ble_eq_true rfl) ⟨by dsimp only; omega, by dsimp only; omega⟩ ?_
  refine mC_mono (fun r h7 hr => ?_) K
  obtain ⟨rfl, ta, lta, tn2, ltn2, tn6, ltn6, K⟩ := hr
  show mW _ _ _ _ _ _ [.inr (some (mN h4)), .inr (some a)] _ _
  refine mw_putRC (pc' := 26) dX11_init_23 rfl flX11_19 rfl (Or.inr ⟨rfl, rfl, rfl⟩) (ta) (fun h8 eh8 => ?_)
  replace K := K h8 eh8
  have ta : mT h8 a = 12 := by rw [eh8]; exact ta
  have lta : a < mN h8 := by rw [eh8]; exact lta
  have tn2 : mT h8 (mN h) = 10 := by rw [eh8]; exact tn2
  have ltn2 : (mN h) < mN h8 := by rw [eh8]; exact ltn2
  have tn6 : mT h8 (mN h4) = 5 := by rw [eh8]; exact tn6
  have ltn6 : (mN h4) < mN h8 := by rw [eh8]; exact ltn6
  refine mw_aload_n (pc' := 27) dX11_init_26 rfl rfl ?_
  refine mw_newC (pc' := 30) (b1 := b1 + 34) (b2 := b2 + 6074) (ci := 6) (N := 13) dX11_init_27 rfl rfl nwX11_23 (by decide) rfl (fun h9 eh9 => ?_)
  replace K := K h9 eh9
  have ta : mT h9 a = 12 := mT_Al_lt eh9 lta ta
  have lta : a < mN h9 := mN_Al_lt eh9 lta
  have tn2 : mT h9 (mN h) = 10 := mT_Al_lt eh9 ltn2 tn2
  have ltn2 : (mN h) < mN h9 := mN_Al_lt eh9 ltn2
  have tn6 : mT h9 (mN h4) = 5 := mT_Al_lt eh9 ltn6 tn6
  have ltn6 : (mN h4) < mN h9 := mN_Al_lt eh9 ltn6
  have tn10 : mT h9 (mN h8) = 7 := by rw [eh9]; exact mAl_T
  have ltn10 : mN h8 < mN h9 := by rw [eh9]; exact Nat.lt_succ_self _
  refine mw_dup (pc' := 31) dX11_init_30 rfl ?_
  refine mw_callI (pc' := 34) (b' := (20, 671)) (b1 := (b1 + 14, b2 + 5403)) (av := []) (rest := [.inr (some (mN h8)), .inr (some a)]) dX11_init_31 rfl lkX11_25 rfl rfl (Nat.le_of_ble_eq_true rfl) ⟨by dsimp only; omega, by dsimp only; omega⟩ ?_
  refine mC_mono (fun r h11 hr => ?_) K
  obtain ⟨rfl, ta, lta, tn2, ltn2, tn6, ltn6, tn10, ltn10, K⟩ := hr
  show mW _ _ _ _ _ _ [.inr (some (mN h8)), .inr (some a)] _ _
  refine mw_putRC (pc' := 37) dX11_init_34 rfl flX11_26 rfl (Or.inr ⟨rfl, rfl, rfl⟩) (ta) (fun h12 eh12 => ?_)
  replace K := K h12 eh12
  have ta : mT h12 a = 12 := by rw [eh12]; exact ta
  have lta : a < mN h12 := by rw [eh12]; exact lta
  have tn2 : mT h12 (mN h) = 10 := by rw [eh12]; exact tn2
  have ltn2 : (mN h) < mN h12 := by rw [eh12]; exact ltn2
  have tn6 : mT h12 (mN h4) = 5 := by rw [eh12]; exact tn6
  have ltn6 : (mN h4) < mN h12 := by rw [eh12]; exact ltn6
  have tn10 : mT h12 (mN h8) = 7 := by rw [eh12]; exact tn10
  have ltn10 : (mN h8) < mN h12 := by rw [eh12]; exact ltn10
  refine mw_aload_n (pc' := 38) dX11_init_37 rfl rfl ?_
  refine mw_aload_n (pc' := 39) dX11_init_38 rfl rfl ?_
  refine mw_getR (pc' := 42) dX11_init_39 rfl flX11_26 rfl (ta) ?_
  obtain ⟨y13, ey13, ty13, lty13, K⟩ := K
  rw [ey13]
  refine mw_getR (pc' := 45) dX11_init_42 rfl flX11_30 rfl (ty13) ?_
  refine mw_putRC (pc' := 48) dX11_init_45 rfl flX11_34 rfl (Or.inr ⟨rfl, rfl, rfl⟩) (ta) (fun h14 eh14 => ?_)
  replace K := K h14 eh14
  have ta : mT h14 a = 12 := by rw [eh14]; exact ta
  have lta : a < mN h14 := by rw [eh14]; exact lta
  have tn2 : mT h14 (mN h) = 10 := by rw [eh14]; exact tn2
  have ltn2 : (mN h) < mN h14 := by rw [eh14]; exact ltn2
  have tn6 : mT h14 (mN h4) = 5 := by rw [eh14]; exact tn6
  have ltn6 : (mN h4) < mN h14 := by rw [eh14]; exact ltn6
  have tn10 : mT h14 (mN h8) = 7 := by rw [eh14]; exact tn10
  have ltn10 : (mN h8) < mN h14 := by rw [eh14]; exact ltn10
  have ty13 : mT h14 y13 = 7 := by rw [eh14]; exact ty13
  have lty13 : y13 < mN h14 := by rw [eh14]; exact lty13
  refine mw_aload_n (pc' := 49) dX11_init_48 rfl rfl ?_
  refine mw_newC (pc' := 52) (b1 := b1 + 13) (b2 := b2 + 5396) (ci := 0) (N := 7) dX11_init_49 rfl rfl nwX11_35 (by decide) rfl (fun h15 eh15 => ?_)
  replace K := K h15 eh15
  have ta : mT h15 a = 12 := mT_Al_lt eh15 lta ta
  have lta : a < mN h15 := mN_Al_lt eh15 lta
  have tn2 : mT h15 (mN h) = 10 := mT_Al_lt eh15 ltn2 tn2
  have ltn2 : (mN h) < mN h15 := mN_Al_lt eh15 ltn2
  have tn6 : mT h15 (mN h4) = 5 := mT_Al_lt eh15 ltn6 tn6
  have ltn6 : (mN h4) < mN h15 := mN_Al_lt eh15 ltn6
  have tn10 : mT h15 (mN h8) = 7 := mT_Al_lt eh15 ltn10 tn10
  have ltn10 : (mN h8) < mN h15 := mN_Al_lt eh15 ltn10
  have ty13 : mT h15 y13 = 7 := mT_Al_lt eh15 lty13 ty13
  have lty13 : y13 < mN h15 := mN_Al_lt eh15 lty13
  have tn16 : mT h15 (mN h14) = 1 := by rw [eh15]; exact mAl_T
  have ltn16 : mN h14 < mN h15 := by rw [eh15]; exact Nat.lt_succ_self _
  refine mw_dup (pc' := 53) dX11_init_52 rfl ?_
  refine mw_callI (pc' := 56) (b' := (4, 104)) (b1 := (b1 + 9, b2 + 5292)) (av := []) (rest := [.inr (some (mN h14)), .inr (some a)]) dX11_init_53 rfl lkX11_37 rfl rfl (Nat.le_of_ble_eq_true rfl) ⟨by dsimp only; omega, by dsimp only; omega⟩ ?_
  refine mC_mono (fun r h17 hr => ?_) K
  obtain ⟨rfl, ta, lta, tn2, ltn2, tn6, ltn6, tn10, ltn10, ty13, lty13, tn16, ltn16, K⟩ := hr
  show mW _ _ _ _ _ _ [.inr (some (mN h14)), .inr (some a)] _ _
  refine mw_putRC (pc' := 59) dX11_init_56 rfl flX11_38 rfl (Or.inr ⟨rfl, rfl, rfl⟩) (ta) (fun h18 eh18 => ?_)
  replace K := K h18 eh18
  have ta : mT h18 a = 12 := by rw [eh18]; exact ta
  have lta : a < mN h18 := by rw [eh18]; exact lta
  have tn2 : mT h18 (mN h) = 10 := by rw [eh18]; exact tn2
  have ltn2 : (mN h) < mN h18 := by rw [eh18]; exact ltn2
  have tn6 : mT h18 (mN h4) = 5 := by rw [eh18]; exact tn6
  have ltn6 : (mN h4) < mN h18 := by rw [eh18]; exact ltn6
  have tn10 : mT h18 (mN h8) = 7 := by rw [eh18]; exact tn10
  have ltn10 : (mN h8) < mN h18 := by rw [eh18]; exact ltn10
  have ty13 : mT h18 y13 = 7 := by rw [eh18]; exact ty13
  have lty13 : y13 < mN h18 := by rw [eh18]; exact lty13
  have tn16 : mT h18 (mN h14) = 1 := by rw [eh18]; exact tn16
  have ltn16 : (mN h14) < mN h18 := by rw [eh18]; exact ltn16
  refine mw_aload_n (pc' := 60) dX11_init_59 rfl rfl ?_
  refine mw_newC (pc' := 63) (b1 := b1 + 8) (b2 := b2 + 5284) (ci := 10) (N := 8) dX11_init_60 rfl rfl nwX11_42 (by decide) rfl (fun h19 eh19 => ?_)
  replace K := K h19 eh19
  have ta : mT h19 a = 12 := mT_Al_lt eh19 lta ta
  have lta : a < mN h19 := mN_Al_lt eh19 lta
  have tn2 : mT h19 (mN h) = 10 := mT_Al_lt eh19 ltn2 tn2
  have ltn2 : (mN h) < mN h19 := mN_Al_lt eh19 ltn2
  have tn6 : mT h19 (mN h4) = 5 := mT_Al_lt eh19 ltn6 tn6
  have ltn6 : (mN h4) < mN h19 := mN_Al_lt eh19 ltn6
  have tn10 : mT h19 (mN h8) = 7 := mT_Al_lt eh19 ltn10 tn10
  have ltn10 : (mN h8) < mN h19 := mN_Al_lt eh19 ltn10
  have ty13 : mT h19 y13 = 7 := mT_Al_lt eh19 lty13 ty13
  have lty13 : y13 < mN h19 := mN_Al_lt eh19 lty13
  have tn16 : mT h19 (mN h14) = 1 := mT_Al_lt eh19 ltn16 tn16
  have ltn16 : (mN h14) < mN h19 := mN_Al_lt eh19 ltn16
  have tn20 : mT h19 (mN h18) = 11 := by rw [eh19]; exact mAl_T
  have ltn20 : mN h18 < mN h19 := by rw [eh19]; exact Nat.lt_succ_self _
  refine mw_dup (pc' := 64) dX11_init_63 rfl ?_
  refine mw_callI (pc' := 67) (b' := (2, 4196)) (b1 := (b1 + 6, b2 + 1088)) (av := []) (rest := [.inr (some (mN h18)), .inr (some a)]) dX11_init_64 rfl lkX11_44 rfl rfl (Nat.le_of_ble_eq_true rfl) ⟨by dsimp only; omega, by dsimp only; omega⟩ ?_
  refine mC_mono (fun r h21 hr => ?_) K
  obtain ⟨rfl, ta, lta, tn2, ltn2, tn6, ltn6, tn10, ltn10, ty13, lty13, tn16, ltn16, tn20, ltn20, K⟩ := hr
  show mW _ _ _ _ _ _ [.inr (some (mN h18)), .inr (some a)] _ _
  refine mw_putRC (pc' := 70) dX11_init_67 rfl flX11_45 rfl (Or.inr ⟨rfl, rfl, rfl⟩) (ta) (fun h22 eh22 => ?_)
  replace K := K h22 eh22
  have ta : mT h22 a = 12 := by rw [eh22]; exact ta
  have lta : a < mN h22 := by rw [eh22]; exact lta
  have tn2 : mT h22 (mN h) = 10 := by rw [eh22]; exact tn2
  have ltn2 : (mN h) < mN h22 := by rw [eh22]; exact ltn2
  have tn6 : mT h22 (mN h4) = 5 := by rw [eh22]; exact tn6
  have ltn6 : (mN h4) < mN h22 := by rw [eh22]; exact ltn6
  have tn10 : mT h22 (mN h8) = 7 := by rw [eh22]; exact tn10
  have ltn10 : (mN h8) < mN h22 := by rw [eh22]; exact ltn10
  have ty13 : mT h22 y13 = 7 := by rw [eh22]; exact ty13
  have lty13 : y13 < mN h22 := by rw [eh22]; exact lty13
  have tn16 : mT h22 (mN h14) = 1 := by rw [eh22]; exact tn16
  have ltn16 : (mN h14) < mN h22 := by rw [eh22]; exact ltn16
  have tn20 : mT h22 (mN h18) = 11 := by rw [eh22]; exact tn20
  have ltn20 : (mN h18) < mN h22 := by rw [eh22]; exact ltn20
  refine mw_aload_n (pc' := 71) dX11_init_70 rfl rfl ?_
  refine mw_newC (pc' := 74) (b1 := b1 + 5) (b2 := b2 + 1074) (ci := 8) (N := 14) dX11_init_71 rfl rfl nwX11_49 (by decide) rfl (fun h23 eh23 => ?_)
  replace K := K h23 eh23
  have ta : mT h23 a = 12 := mT_Al_lt eh23 lta ta
  have lta : a < mN h23 := mN_Al_lt eh23 lta
  have tn2 : mT h23 (mN h) = 10 := mT_Al_lt eh23 ltn2 tn2
  have ltn2 : (mN h) < mN h23 := mN_Al_lt eh23 ltn2
  have tn6 : mT h23 (mN h4) = 5 := mT_Al_lt eh23 ltn6 tn6
  have ltn6 : (mN h4) < mN h23 := mN_Al_lt eh23 ltn6
  have tn10 : mT h23 (mN h8) = 7 := mT_Al_lt eh23 ltn10 tn10
  have ltn10 : (mN h8) < mN h23 := mN_Al_lt eh23 ltn10
  have ty13 : mT h23 y13 = 7 := mT_Al_lt eh23 lty13 ty13
  have lty13 : y13 < mN h23 := mN_Al_lt eh23 lty13
  have tn16 : mT h23 (mN h14) = 1 := mT_Al_lt eh23 ltn16 tn16
  have ltn16 : (mN h14) < mN h23 := mN_Al_lt eh23 ltn16
  have tn20 : mT h23 (mN h18) = 11 := mT_Al_lt eh23 ltn20 tn20
  have ltn20 : (mN h18) < mN h23 := mN_Al_lt eh23 ltn20
  have tn24 : mT h23 (mN h22) = 9 := by rw [eh23]; exact mAl_T
  have ltn24 : mN h22 < mN h23 := by rw [eh23]; exact Nat.lt_succ_self _
  refine mw_dup (pc' := 75) dX11_init_74 rfl ?_
  refine mw_callI (pc' := 78) (b' := (5, 1074)) (b1 := (b1, b2)) (av := []) (rest := [.inr (some (mN h22)), .inr (some a)]) dX11_init_75 rfl lkX11_51 rfl rfl (Nat.le_of_ble_eq_true rfl) ⟨by dsimp only; omega, by dsimp only; omega⟩ ?_
  refine mC_mono (fun r h25 hr => ?_) K
  obtain ⟨rfl, ta, lta, tn2, ltn2, tn6, ltn6, tn10, ltn10, ty13, lty13, tn16, ltn16, tn20, ltn20, tn24, ltn24, K⟩ := hr
  show mW _ _ _ _ _ _ [.inr (some (mN h22)), .inr (some a)] _ _
  refine mw_putRC (pc' := 81) dX11_init_78 rfl flX11_52 rfl (Or.inr ⟨rfl, rfl, rfl⟩) (ta) (fun h26 eh26 => ?_)
  replace K := K h26 eh26
  have ta : mT h26 a = 12 := by rw [eh26]; exact ta
  have lta : a < mN h26 := by rw [eh26]; exact lta
  have tn2 : mT h26 (mN h) = 10 := by rw [eh26]; exact tn2
  have ltn2 : (mN h) < mN h26 := by rw [eh26]; exact ltn2
  have tn6 : mT h26 (mN h4) = 5 := by rw [eh26]; exact tn6
  have ltn6 : (mN h4) < mN h26 := by rw [eh26]; exact ltn6
  have tn10 : mT h26 (mN h8) = 7 := by rw [eh26]; exact tn10
  have ltn10 : (mN h8) < mN h26 := by rw [eh26]; exact ltn10
  have ty13 : mT h26 y13 = 7 := by rw [eh26]; exact ty13
  have lty13 : y13 < mN h26 := by rw [eh26]; exact lty13
  have tn16 : mT h26 (mN h14) = 1 := by rw [eh26]; exact tn16
  have ltn16 : (mN h14) < mN h26 := by rw [eh26]; exact ltn16
  have tn20 : mT h26 (mN h18) = 11 := by rw [eh26]; exact tn20
  have ltn20 : (mN h18) < mN h26 := by rw [eh26]; exact ltn20
  have tn24 : mT h26 (mN h22) = 9 := by rw [eh26]; exact tn24
  have ltn24 : (mN h22) < mN h26 := by rw [eh26]; exact ltn24
  refine mw_aload_n (pc' := 82) dX11_init_81 rfl rfl ?_
  refine mw_iconst (pc' := 83) (v := 1) dX11_init_82 rfl (by decide) ?_
  refine mw_putIC (pc' := 86) dX11_init_83 rfl flX11_56 rfl (Or.inl rfl) ⟨rfl, rfl⟩ (ta) (fun h27 eh27 => ?_)
  replace K := K h27 eh27
  have ta : mT h27 a = 12 := by rw [eh27]; exact ta
  have lta : a < mN h27 := by rw [eh27]; exact lta
  have tn2 : mT h27 (mN h) = 10 := by rw [eh27]; exact tn2
  have ltn2 : (mN h) < mN h27 := by rw [eh27]; exact ltn2
  have tn6 : mT h27 (mN h4) = 5 := by rw [eh27]; exact tn6
  have ltn6 : (mN h4) < mN h27 := by rw [eh27]; exact ltn6
  have tn10 : mT h27 (mN h8) = 7 := by rw [eh27]; exact tn10
  have ltn10 : (mN h8) < mN h27 := by rw [eh27]; exact ltn10
  have ty13 : mT h27 y13 = 7 := by rw [eh27]; exact ty13
  have lty13 : y13 < mN h27 := by rw [eh27]; exact lty13
  have tn16 : mT h27 (mN h14) = 1 := by rw [eh27]; exact tn16
  have ltn16 : (mN h14) < mN h27 := by rw [eh27]; exact ltn16
  have tn20 : mT h27 (mN h18) = 11 := by rw [eh27]; exact tn20
  have ltn20 : (mN h18) < mN h27 := by rw [eh27]; exact ltn20
  have tn24 : mT h27 (mN h22) = 9 := by rw [eh27]; exact tn24
  have ltn24 : (mN h22) < mN h27 := by rw [eh27]; exact ltn24
  exact mw_ret dX11_init_86 rfl K

set_option maxRecDepth 100000 in
set_option maxHeartbeats 4000000 in
theorem qX12_init {G : mG} {d : Nat} {b1 b2 : Nat} {h : mH} {Q : Option mV → mH → Prop} (a : Nat) (ta : mT h a = 13) (lta : a < mN h)
    (K : ∀ h1, h1 = mAl h 100 8 → ∀ h2, h2 = mSR h1 a 1 (some (mN h)) → ∀ h3, h3 = mAl h2 100 128 → ∀ h4, h4 = mSR h3 a 2 (some (mN h2)) → ∀ h5, h5 = mAl h4 100 128 → ∀ h6, h6 = mSR h5 a 3 (some (mN h4)) → ∀ h7, h7 = mAl h6 100 128 → ∀ h8, h8 = mSR h7 a 4 (some (mN h6)) → ∀ h9, h9 = mAl h8 101 8192 → ∀ h10, h10 = mSR h9 a 5 (some (mN h8)) → ∀ h11, h11 = mAl h10 100 6 → ∀ h12, h12 = mSR h11 a 7 (some (mN h10)) → ∀ h13, h13 = mAl h12 100 6 → ∀ h14, h14 = mSR h13 a 8 (some (mN h12)) → ∀ h15, h15 = mAl h14 100 6 → ∀ h16, h16 = mSR h15 a 9 (some (mN h14)) → ∀ h17, h17 = mAl h16 100 6 → ∀ h18, h18 = mSR h17 a 10 (some (mN h16)) → ∀ h19, h19 = mAl h18 105 220 → ∀ h20, h20 = mSR h19 a 11 (some (mN h18)) → ∀ h21, h21 = mAl h20 100 180 → ∀ h22, h22 = mSR h21 a 22 (some (mN h20)) → ∀ h23, h23 = mAl h22 100 180 → ∀ h24, h24 = mSR h23 a 23 (some (mN h22)) → ∀ h25, h25 = mAl h24 100 12 → ∀ h26, h26 = mSR h25 a 24 (some (mN h24)) → ∀ h27, h27 = mAl h26 100 12 → ∀ h28, h28 = mSR h27 a 25 (some (mN h26)) → ∀ h29, h29 = mAl h28 100 12 → ∀ h30, h30 = mSR h29 a 26 (some (mN h28)) → ∀ h31, h31 = mAl h30 100 180 → ∀ h32, h32 = mSR h31 a 27 (some (mN h30)) → ∀ h33, h33 = mAl h32 100 12 → ∀ h34, h34 = mSR h33 a 28 (some (mN h32)) → ∀ h35, h35 = mAl h34 100 12 → ∀ h36, h36 = mSR h35 a 29 (some (mN h34)) → ∀ h37, h37 = mAl h36 100 12 → ∀ h38, h38 = mSR h37 a 30 (some (mN h36)) → ∀ h39, h39 = mAl h38 100 180 → ∀ h40, h40 = mSR h39 a 31 (some (mN h38)) → ∀ h41, h41 = mAl h40 100 9 → ∀ h42, h42 = mSR h41 a 32 (some (mN h40)) → ∀ h43, h43 = mAl h42 100 12 → ∀ h44, h44 = mSR h43 a 39 (some (mN h42)) → ∀ h45, h45 = mAl h44 100 12 → ∀ h46, h46 = mSR h45 a 40 (some (mN h44)) → ∀ h47, h47 = mAl h46 100 12 → ∀ h48, h48 = mSR h47 a 41 (some (mN h46)) → ∀ h49, h49 = mAl h48 100 12 → ∀ h50, h50 = mSR h49 a 42 (some (mN h48)) → ∀ h51, h51 = mAl h50 100 12 → ∀ h52, h52 = mSR h51 a 43 (some (mN h50)) → ∀ h53, h53 = mAl h52 100 12 → ∀ h54, h54 = mSR h53 a 44 (some (mN h52)) → ∀ h55, h55 = mAl h54 100 72 → ∀ h56, h56 = mSR h55 a 45 (some (mN h54)) → ∀ h57, h57 = mAl h56 100 72 → ∀ h58, h58 = mSR h57 a 46 (some (mN h56)) → ∀ h59, h59 = mAl h58 100 72 → ∀ h60, h60 = mSR h59 a 47 (some (mN h58)) → ∀ h61, h61 = mAl h60 100 12288 → ∀ h62, h62 = mSR h61 a 48 (some (mN h60)) → ∀ h63, h63 = mAl h62 100 12288 → ∀ h64, h64 = mSR h63 a 49 (some (mN h62)) → ∀ h65, h65 = mAl h64 100 12288 → ∀ h66, h66 = mSR h65 a 50 (some (mN h64)) → ∀ h67, h67 = mAl h66 100 6 → ∀ h68, h68 = mSR h67 a 54 (some (mN h66)) → ∀ h69, h69 = mAl h68 100 6 → ∀ h70, h70 = mSR h69 a 55 (some (mN h68)) → ∀ h71, h71 = mAl h70 100 6 → ∀ h72, h72 = mSR h71 a 56 (some (mN h70)) → ∀ h73, h73 = mAl h72 100 8192 → ∀ h74, h74 = mSR h73 a 57 (some (mN h72)) → ∀ h75, h75 = mAl h74 100 8192 → ∀ h76, h76 = mSR h75 a 58 (some (mN h74)) → ∀ h77, h77 = mAl h76 100 65 → ∀ h78, h78 = mSR h77 a 59 (some (mN h76)) → ∀ h79, h79 = mAl h78 100 25350 → ∀ h80, h80 = mSR h79 a 60 (some (mN h78)) → ∀ h81, h81 = mAl h80 101 1024 → ∀ h82, h82 = mSR h81 a 61 (some (mN h80)) → ∀ h83, h83 = mAl h82 100 4096 → ∀ h84, h84 = mSR h83 a 62 (some (mN h82)) → ∀ h85, h85 = mAl h84 101 1024 → ∀ h86, h86 = mSR h85 a 63 (some (mN h84)) → ∀ h87, h87 = mAl h86 101 1024 → ∀ h88, h88 = mSR h87 a 64 (some (mN h86)) → ∀ h89, h89 = mAl h88 100 1024 → ∀ h90, h90 = mSR h89 a 65 (some (mN h88)) → ∀ h91, h91 = mSI h90 a 37 31 → ∀ h92, h92 = mSI h91 a 38 31 → Q none h92) : mC G kX12_init (d + 1) (b1 + 45, b2 + 96790) [.inr (some a)] h Q := by
  refine mC_in rfl (Nat.le_of_ble_eq_true rfl) ?_
  show mW _ _ _ _ _ [some (.inr (some a))] _ _ _
  refine mw_aload_n (pc' := 1) dX12_init_0 rfl rfl ?_
  refine mw_objInit (pc' := 4) dX12_init_1 rfl lkX12_1 (Nat.le_of_ble_eq_true rfl) ?_
  refine mw_aload_n (pc' := 5) dX12_init_4 rfl rfl ?_
  refine mw_bipush (pc' := 7) (v := 8) dX12_init_5 rfl (by decide) ?_
  refine mw_newaC (pc' := 9) (b1 := b1 + 44) (b2 := b2 + 96782) (n := 8) (t := 0) dX12_init_7 rfl (by decide) (by decide) (by decide) (by decide) rfl (fun h1 eh1 => ?_)
  replace K := K h1 eh1
  have ta : mT h1 a = 13 := mT_Al_lt eh1 lta ta
  have lta : a < mN h1 := mN_Al_lt eh1 lta
  refine mw_putRC (pc' := 12) dX12_init_9 rfl flX12_7 rfl (Or.inr ⟨rfl, rfl, rfl⟩) (ta) (fun h2 eh2 => ?_)
  replace K := K h2 eh2
  have ta : mT h2 a = 13 := by rw [eh2]; exact ta
  have lta : a < mN h2 := by rw [eh2]; exact lta
  refine mw_aload_n (pc' := 13) dX12_init_12 rfl rfl ?_
  refine mw_sipush (pc' := 16) (v := 128) dX12_init_13 rfl (by decide) ?_
  refine mw_newaC (pc' := 18) (b1 := b1 + 43) (b2 := b2 + 96654) (n := 128) (t := 0) dX12_init_16 rfl (by decide) (by decide) (by decide) (by decide) rfl (fun h3 eh3 => ?_)
  replace K := K h3 eh3
  have ta : mT h3 a = 13 := mT_Al_lt eh3 lta ta
  have lta : a < mN h3 := mN_Al_lt eh3 lta
  refine mw_putRC (pc' := 21) dX12_init_18 rfl flX12_13 rfl (Or.inr ⟨rfl, rfl, rfl⟩) (ta) (fun h4 eh4 => ?_)
  replace K := K h4 eh4
  have ta : mT h4 a = 13 := by rw [eh4]; exact ta
  have lta : a < mN h4 := by rw [eh4]; exact lta
  refine mw_aload_n (pc' := 22) dX12_init_21 rfl rfl ?_
  refine mw_sipush (pc' := 25) (v := 128) dX12_init_22 rfl (by decide) ?_
  refine mw_newaC (pc' := 27) (b1 := b1 + 42) (b2 := b2 + 96526) (n := 128) (t := 0) dX12_init_25 rfl (by decide) (by decide) (by decide) (by decide) rfl (fun h5 eh5 => ?_)
  replace K := K h5 eh5
  have ta : mT h5 a = 13 := mT_Al_lt eh5 lta ta
  have lta : a < mN h5 := mN_Al_lt eh5 lta
  refine mw_putRC (pc' := 30) dX12_init_27 rfl flX12_16 rfl (Or.inr ⟨rfl, rfl, rfl⟩) (ta) (fun h6 eh6 => ?_)
  replace K := K h6 eh6
  have ta : mT h6 a = 13 := by rw [eh6]; exact ta
  have lta : a < mN h6 := by rw [eh6]; exact lta
  refine mw_aload_n (pc' := 31) dX12_init_30 rfl rfl ?_
  refine mw_sipush (pc' := 34) (v := 128) dX12_init_31 rfl (by decide) ?_
  refine mw_newaC (pc' := 36) (b1 := b1 + 41) (b2 := b2 + 96398) (n := 128) (t := 0) dX12_init_34 rfl (by decide) (by decide) (by decide) (by decide) rfl (fun h7 eh7 => ?_)
  replace K := K h7 eh7
  have ta : mT h7 a = 13 := mT_Al_lt eh7 lta ta
  have lta : a < mN h7 := mN_Al_lt eh7 lta
  refine mw_putRC (pc' := 39) dX12_init_36 rfl flX12_19 rfl (Or.inr ⟨rfl, rfl, rfl⟩) (ta) (fun h8 eh8 => ?_)
  replace K := K h8 eh8
  have ta : mT h8 a = 13 := by rw [eh8]; exact ta
  have lta : a < mN h8 := by rw [eh8]; exact lta
  refine mw_aload_n (pc' := 40) dX12_init_39 rfl rfl ?_
  refine mw_sipush (pc' := 43) (v := 8192) dX12_init_40 rfl (by decide) ?_
  refine mw_newaC (pc' := 45) (b1 := b1 + 40) (b2 := b2 + 88206) (n := 8192) (t := 1) dX12_init_43 rfl (by decide) (by decide) (by decide) (by decide) rfl (fun h9 eh9 => ?_)
  replace K := K h9 eh9
  have ta : mT h9 a = 13 := mT_Al_lt eh9 lta ta
  have lta : a < mN h9 := mN_Al_lt eh9 lta
  refine mw_putRC (pc' := 48) dX12_init_45 rfl flX12_22 rfl (Or.inr ⟨rfl, rfl, rfl⟩) (ta) (fun h10 eh10 => ?_)
  replace K := K h10 eh10
  have ta : mT h10 a = 13 := by rw [eh10]; exact ta
  have lta : a < mN h10 := by rw [eh10]; exact lta
  refine mw_aload_n (pc' := 49) dX12_init_48 rfl rfl ?_
  refine mw_bipush (pc' := 51) (v := 6) dX12_init_49 rfl (by decide) ?_
  refine mw_newaC (pc' := 53) (b1 := b1 + 39) (b2 := b2 + 88200) (n := 6) (t := 0) dX12_init_51 rfl (by decide) (by decide) (by decide) (by decide) rfl (fun h11 eh11 => ?_)
  replace K := K h11 eh11
  have ta : mT h11 a = 13 := mT_Al_lt eh11 lta ta
  have lta : a < mN h11 := mN_Al_lt eh11 lta
  refine mw_putRC (pc' := 56) dX12_init_53 rfl flX12_26 rfl (Or.inr ⟨rfl, rfl, rfl⟩) (ta) (fun h12 eh12 => ?_)
  replace K := K h12 eh12
  have ta : mT h12 a = 13 := by rw [eh12]; exact ta
  have lta : a < mN h12 := by rw [eh12]; exact lta
  refine mw_aload_n (pc' := 57) dX12_init_56 rfl rfl ?_
  refine mw_bipush (pc' := 59) (v := 6) dX12_init_57 rfl (by decide) ?_
  refine mw_newaC (pc' := 61) (b1 := b1 + 38) (b2 := b2 + 88194) (n := 6) (t := 0) dX12_init_59 rfl (by decide) (by decide) (by decide) (by decide) rfl (fun h13 eh13 => ?_)
  replace K := K h13 eh13
  have ta : mT h13 a = 13 := mT_Al_lt eh13 lta ta
  have lta : a < mN h13 := mN_Al_lt eh13 lta
  refine mw_putRC (pc' := 64) dX12_init_61 rfl flX12_29 rfl (Or.inr ⟨rfl, rfl, rfl⟩) (ta) (fun h14 eh14 => ?_)
  replace K := K h14 eh14
  have ta : mT h14 a = 13 := by rw [eh14]; exact ta
  have lta : a < mN h14 := by rw [eh14]; exact lta
  refine mw_aload_n (pc' := 65) dX12_init_64 rfl rfl ?_
  refine mw_bipush (pc' := 67) (v := 6) dX12_init_65 rfl (by decide) ?_
  refine mw_newaC (pc' := 69) (b1 := b1 + 37) (b2 := b2 + 88188) (n := 6) (t := 0) dX12_init_67 rfl (by decide) (by decide) (by decide) (by decide) rfl (fun h15 eh15 => ?_)
  replace K := K h15 eh15
  have ta : mT h15 a = 13 := mT_Al_lt eh15 lta ta
  have lta : a < mN h15 := mN_Al_lt eh15 lta
  refine mw_putRC (pc' := 72) dX12_init_69 rfl flX12_32 rfl (Or.inr ⟨rfl, rfl, rfl⟩) (ta) (fun h16 eh16 => ?_)
  replace K := K h16 eh16
  have ta : mT h16 a = 13 := by rw [eh16]; exact ta
  have lta : a < mN h16 := by rw [eh16]; exact lta
  refine mw_aload_n (pc' := 73) dX12_init_72 rfl rfl ?_
  refine mw_bipush (pc' := 75) (v := 6) dX12_init_73 rfl (by decide) ?_
  refine mw_newaC (pc' := 77) (b1 := b1 + 36) (b2 := b2 + 88182) (n := 6) (t := 0) dX12_init_75 rfl (by decide) (by decide) (by decide) (by decide) rfl (fun h17 eh17 => ?_)
  replace K := K h17 eh17
  have ta : mT h17 a = 13 := mT_Al_lt eh17 lta ta
  have lta : a < mN h17 := mN_Al_lt eh17 lta
  refine mw_putRC (pc' := 80) dX12_init_77 rfl flX12_35 rfl (Or.inr ⟨rfl, rfl, rfl⟩) (ta) (fun h18 eh18 => ?_)
  replace K := K h18 eh18
  have ta : mT h18 a = 13 := by rw [eh18]; exact ta
  have lta : a < mN h18 := by rw [eh18]; exact lta
  refine mw_aload_n (pc' := 81) dX12_init_80 rfl rfl ?_
  refine mw_sipush (pc' := 84) (v := 220) dX12_init_81 rfl (by decide) ?_
  refine mw_newaC (pc' := 86) (b1 := b1 + 35) (b2 := b2 + 87962) (n := 220) (t := 5) dX12_init_84 rfl (by decide) (by decide) (by decide) (by decide) rfl (fun h19 eh19 => ?_)
  replace K := K h19 eh19
  have ta : mT h19 a = 13 := mT_Al_lt eh19 lta ta
  have lta : a < mN h19 := mN_Al_lt eh19 lta
  refine mw_putRC (pc' := 89) dX12_init_86 rfl flX12_38 rfl (Or.inr ⟨rfl, rfl, rfl⟩) (ta) (fun h20 eh20 => ?_)
  replace K := K h20 eh20
  have ta : mT h20 a = 13 := by rw [eh20]; exact ta
  have lta : a < mN h20 := by rw [eh20]; exact lta
  refine mw_aload_n (pc' := 90) dX12_init_89 rfl rfl ?_
  refine mw_sipush (pc' := 93) (v := 180) dX12_init_90 rfl (by decide) ?_
  refine mw_newaC (pc' := 95) (b1 := b1 + 34) (b2 := b2 + 87782) (n := 180) (t := 0) dX12_init_93 rfl (by decide) (by decide) (by decide) (by decide) rfl (fun h21 eh21 => ?_)
  replace K := K h21 eh21
  have ta : mT h21 a = 13 := mT_Al_lt eh21 lta ta
  have lta : a < mN h21 := mN_Al_lt eh21 lta
  refine mw_putRC (pc' := 98) dX12_init_95 rfl flX12_42 rfl (Or.inr ⟨rfl, rfl, rfl⟩) (ta) (fun h22 eh22 => ?_)
  replace K := K h22 eh22
  have ta : mT h22 a = 13 := by rw [eh22]; exact ta
  have lta : a < mN h22 := by rw [eh22]; exact lta
  refine mw_aload_n (pc' := 99) dX12_init_98 rfl rfl ?_
  refine mw_sipush (pc' := 102) (v := 180) dX12_init_99 rfl (by decide) ?_
  refine mw_newaC (pc' := 104) (b1 := b1 + 33) (b2 := b2 + 87602) (n := 180) (t := 0) dX12_init_102 rfl (by decide) (by decide) (by decide) (by decide) rfl (fun h23 eh23 => ?_)
  replace K := K h23 eh23
  have ta : mT h23 a = 13 := mT_Al_lt eh23 lta ta
  have lta : a < mN h23 := mN_Al_lt eh23 lta
  refine mw_putRC (pc' := 107) dX12_init_104 rfl flX12_45 rfl (Or.inr ⟨rfl, rfl, rfl⟩) (ta) (fun h24 eh24 => ?_)
  replace K := K h24 eh24
  have ta : mT h24 a = 13 := by rw [eh24]; exact ta
  have lta : a < mN h24 := by rw [eh24]; exact lta
  refine mw_aload_n (pc' := 108) dX12_init_107 rfl rfl ?_
  refine mw_bipush (pc' := 110) (v := 12) dX12_init_108 rfl (by decide) ?_
  refine mw_newaC (pc' := 112) (b1 := b1 + 32) (b2 := b2 + 87590) (n := 12) (t := 0) dX12_init_110 rfl (by decide) (by decide) (by decide) (by decide) rfl (fun h25 eh25 => ?_)
  replace K := K h25 eh25
  have ta : mT h25 a = 13 := mT_Al_lt eh25 lta ta
  have lta : a < mN h25 := mN_Al_lt eh25 lta
  refine mw_putRC (pc' := 115) dX12_init_112 rfl flX12_48 rfl (Or.inr ⟨rfl, rfl, rfl⟩) (ta) (fun h26 eh26 => ?_)
  replace K := K h26 eh26
  have ta : mT h26 a = 13 := by rw [eh26]; exact ta
  have lta : a < mN h26 := by rw [eh26]; exact lta
  refine mw_aload_n (pc' := 116) dX12_init_115 rfl rfl ?_
  refine mw_bipush (pc' := 118) (v := 12) dX12_init_116 rfl (by decide) ?_
  refine mw_newaC (pc' := 120) (b1 := b1 + 31) (b2 := b2 + 87578) (n := 12) (t := 0) dX12_init_118 rfl (by decide) (by decide) (by decide) (by decide) rfl (fun h27 eh27 => ?_)
  replace K := K h27 eh27
  have ta : mT h27 a = 13 := mT_Al_lt eh27 lta ta
  have lta : a < mN h27 := mN_Al_lt eh27 lta
  refine mw_putRC (pc' := 123) dX12_init_120 rfl flX12_51 rfl (Or.inr ⟨rfl, rfl, rfl⟩) (ta) (fun h28 eh28 => ?_)
  replace K := K h28 eh28
  have ta : mT h28 a = 13 := by rw [eh28]; exact ta
  have lta : a < mN h28 := by rw [eh28]; exact lta
  refine mw_aload_n (pc' := 124) dX12_init_123 rfl rfl ?_
  refine mw_bipush (pc' := 126) (v := 12) dX12_init_124 rfl (by decide) ?_
  refine mw_newaC (pc' := 128) (b1 := b1 + 30) (b2 := b2 + 87566) (n := 12) (t := 0) dX12_init_126 rfl (by decide) (by decide) (by decide) (by decide) rfl (fun h29 eh29 => ?_)
  replace K := K h29 eh29
  have ta : mT h29 a = 13 := mT_Al_lt eh29 lta ta
  have lta : a < mN h29 := mN_Al_lt eh29 lta
  refine mw_putRC (pc' := 131) dX12_init_128 rfl flX12_54 rfl (Or.inr ⟨rfl, rfl, rfl⟩) (ta) (fun h30 eh30 => ?_)
  replace K := K h30 eh30
  have ta : mT h30 a = 13 := by rw [eh30]; exact ta
  have lta : a < mN h30 := by rw [eh30]; exact lta
  refine mw_aload_n (pc' := 132) dX12_init_131 rfl rfl ?_
  refine mw_sipush (pc' := 135) (v := 180) dX12_init_132 rfl (by decide) ?_
  refine mw_newaC (pc' := 137) (b1 := b1 + 29) (b2 := b2 + 87386) (n := 180) (t := 0) dX12_init_135 rfl (by decide) (by decide) (by decide) (by decide) rfl (fun h31 eh31 => ?_)
  replace K := K h31 eh31
  have ta : mT h31 a = 13 := mT_Al_lt eh31 lta ta
  have lta : a < mN h31 := mN_Al_lt eh31 lta
  refine mw_putRC (pc' := 140) dX12_init_137 rfl flX12_57 rfl (Or.inr ⟨rfl, rfl, rfl⟩) (ta) (fun h32 eh32 => ?_)
  replace K := K h32 eh32
  have ta : mT h32 a = 13 := by rw [eh32]; exact ta
  have lta : a < mN h32 := by rw [eh32]; exact lta
  refine mw_aload_n (pc' := 141) dX12_init_140 rfl rfl ?_
  refine mw_bipush (pc' := 143) (v := 12) dX12_init_141 rfl (by decide) ?_
  refine mw_newaC (pc' := 145) (b1 := b1 + 28) (b2 := b2 + 87374) (n := 12) (t := 0) dX12_init_143 rfl (by decide) (by decide) (by decide) (by decide) rfl (fun h33 eh33 => ?_)
  replace K := K h33 eh33
  have ta : mT h33 a = 13 := mT_Al_lt eh33 lta ta
  have lta : a < mN h33 := mN_Al_lt eh33 lta
  refine mw_putRC (pc' := 148) dX12_init_145 rfl flX12_60 rfl (Or.inr ⟨rfl, rfl, rfl⟩) (ta) (fun h34 eh34 => ?_)
  replace K := K h34 eh34
  have ta : mT h34 a = 13 := by rw [eh34]; exact ta
  have lta : a < mN h34 := by rw [eh34]; exact lta
  refine mw_aload_n (pc' := 149) dX12_init_148 rfl rfl ?_
  refine mw_bipush (pc' := 151) (v := 12) dX12_init_149 rfl (by decide) ?_
  refine mw_newaC (pc' := 153) (b1 := b1 + 27) (b2 := b2 + 87362) (n := 12) (t := 0) dX12_init_151 rfl (by decide) (by decide) (by decide) (by decide) rfl (fun h35 eh35 => ?_)
  replace K := K h35 eh35
  have ta : mT h35 a = 13 := mT_Al_lt eh35 lta ta
  have lta : a < mN h35 := mN_Al_lt eh35 lta
  refine mw_putRC (pc' := 156) dX12_init_153 rfl flX12_63 rfl (Or.inr ⟨rfl, rfl, rfl⟩) (ta) (fun h36 eh36 => ?_)
  replace K := K h36 eh36
  have ta : mT h36 a = 13 := by rw [eh36]; exact ta
  have lta : a < mN h36 := by rw [eh36]; exact lta
  refine mw_aload_n (pc' := 157) dX12_init_156 rfl rfl ?_
  refine mw_bipush (pc' := 159) (v := 12) dX12_init_157 rfl (by decide) ?_
  refine mw_newaC (pc' := 161) (b1 := b1 + 26) (b2 := b2 + 87350) (n := 12) (t := 0) dX12_init_159 rfl (by decide) (by decide) (by decide) (by decide) rfl (fun h37 eh37 => ?_)
  replace K := K h37 eh37
  have ta : mT h37 a = 13 := mT_Al_lt eh37 lta ta
  have lta : a < mN h37 := mN_Al_lt eh37 lta
  refine mw_putRC (pc' := 164) dX12_init_161 rfl flX12_66 rfl (Or.inr ⟨rfl, rfl, rfl⟩) (ta) (fun h38 eh38 => ?_)
  replace K := K h38 eh38
  have ta : mT h38 a = 13 := by rw [eh38]; exact ta
  have lta : a < mN h38 := by rw [eh38]; exact lta
  refine mw_aload_n (pc' := 165) dX12_init_164 rfl rfl ?_
  refine mw_sipush (pc' := 168) (v := 180) dX12_init_165 rfl (by decide) ?_
  refine mw_newaC (pc' := 170) (b1 := b1 + 25) (b2 := b2 + 87170) (n := 180) (t := 0) dX12_init_168 rfl (by decide) (by decide) (by decide) (by decide) rfl (fun h39 eh39 => ?_)
  replace K := K h39 eh39
  have ta : mT h39 a = 13 := mT_Al_lt eh39 lta ta
  have lta : a < mN h39 := mN_Al_lt eh39 lta
  refine mw_putRC (pc' := 173) dX12_init_170 rfl flX12_69 rfl (Or.inr ⟨rfl, rfl, rfl⟩) (ta) (fun h40 eh40 => ?_)
  replace K := K h40 eh40
  have ta : mT h40 a = 13 := by rw [eh40]; exact ta
  have lta : a < mN h40 := by rw [eh40]; exact lta
  refine mw_aload_n (pc' := 174) dX12_init_173 rfl rfl ?_
  refine mw_bipush (pc' := 176) (v := 9) dX12_init_174 rfl (by decide) ?_
  refine mw_newaC (pc' := 178) (b1 := b1 + 24) (b2 := b2 + 87161) (n := 9) (t := 0) dX12_init_176 rfl (by decide) (by decide) (by decide) (by decide) rfl (fun h41 eh41 => ?_)
  replace K := K h41 eh41
  have ta : mT h41 a = 13 := mT_Al_lt eh41 lta ta
  have lta : a < mN h41 := mN_Al_lt eh41 lta
  refine mw_putRC (pc' := 181) dX12_init_178 rfl flX12_72 rfl (Or.inr ⟨rfl, rfl, rfl⟩) (ta) (fun h42 eh42 => ?_)
  replace K := K h42 eh42
  have ta : mT h42 a = 13 := by rw [eh42]; exact ta
  have lta : a < mN h42 := by rw [eh42]; exact lta
  refine mw_aload_n (pc' := 182) dX12_init_181 rfl rfl ?_
  refine mw_bipush (pc' := 184) (v := 12) dX12_init_182 rfl (by decide) ?_
  refine mw_newaC (pc' := 186) (b1 := b1 + 23) (b2 := b2 + 87149) (n := 12) (t := 0) dX12_init_184 rfl (by decide) (by decide) (by decide) (by decide) rfl (fun h43 eh43 => ?_)
  replace K := K h43 eh43
  have ta : mT h43 a = 13 := mT_Al_lt eh43 lta ta
  have lta : a < mN h43 := mN_Al_lt eh43 lta
  refine mw_putRC (pc' := 189) dX12_init_186 rfl flX12_75 rfl (Or.inr ⟨rfl, rfl, rfl⟩) (ta) (fun h44 eh44 => ?_)
  replace K := K h44 eh44
  have ta : mT h44 a = 13 := by rw [eh44]; exact ta
  have lta : a < mN h44 := by rw [eh44]; exact lta
  refine mw_aload_n (pc' := 190) dX12_init_189 rfl rfl ?_
  refine mw_bipush (pc' := 192) (v := 12) dX12_init_190 rfl (by decide) ?_
  refine mw_newaC (pc' := 194) (b1 := b1 + 22) (b2 := b2 + 87137) (n := 12) (t := 0) dX12_init_192 rfl (by decide) (by decide) (by decide) (by decide) rfl (fun h45 eh45 => ?_)
  replace K := K h45 eh45
  have ta : mT h45 a = 13 := mT_Al_lt eh45 lta ta
  have lta : a < mN h45 := mN_Al_lt eh45 lta
  refine mw_putRC (pc' := 197) dX12_init_194 rfl flX12_78 rfl (Or.inr ⟨rfl, rfl, rfl⟩) (ta) (fun h46 eh46 => ?_)
  replace K := K h46 eh46
  have ta : mT h46 a = 13 := by rw [eh46]; exact ta
  have lta : a < mN h46 := by rw [eh46]; exact lta
  refine mw_aload_n (pc' := 198) dX12_init_197 rfl rfl ?_
  refine mw_bipush (pc' := 200) (v := 12) dX12_init_198 rfl (by decide) ?_
  refine mw_newaC (pc' := 202) (b1 := b1 + 21) (b2 := b2 + 87125) (n := 12) (t := 0) dX12_init_200 rfl (by decide) (by decide) (by decide) (by decide) rfl (fun h47 eh47 => ?_)
  replace K := K h47 eh47
  have ta : mT h47 a = 13 := mT_Al_lt eh47 lta ta
  have lta : a < mN h47 := mN_Al_lt eh47 lta
  refine mw_putRC (pc' := 205) dX12_init_202 rfl flX12_81 rfl (Or.inr ⟨rfl, rfl, rfl⟩) (ta) (fun h48 eh48 => ?_)
  replace K := K h48 eh48
  have ta : mT h48 a = 13 := by rw [eh48]; exact ta
  have lta : a < mN h48 := by rw [eh48]; exact lta
  refine mw_aload_n (pc' := 206) dX12_init_205 rfl rfl ?_
  refine mw_bipush (pc' := 208) (v := 12) dX12_init_206 rfl (by decide) ?_
  refine mw_newaC (pc' := 210) (b1 := b1 + 20) (b2 := b2 + 87113) (n := 12) (t := 0) dX12_init_208 rfl (by decide) (by decide) (by decide) (by decide) rfl (fun h49 eh49 => ?_)
  replace K := K h49 eh49
  have ta : mT h49 a = 13 := mT_Al_lt eh49 lta ta
  have lta : a < mN h49 := mN_Al_lt eh49 lta
  refine mw_putRC (pc' := 213) dX12_init_210 rfl flX12_84 rfl (Or.inr ⟨rfl, rfl, rfl⟩) (ta) (fun h50 eh50 => ?_)
  replace K := K h50 eh50
  have ta : mT h50 a = 13 := by rw [eh50]; exact ta
  have lta : a < mN h50 := by rw [eh50]; exact lta
  refine mw_aload_n (pc' := 214) dX12_init_213 rfl rfl ?_
  refine mw_bipush (pc' := 216) (v := 12) dX12_init_214 rfl (by decide) ?_
  refine mw_newaC (pc' := 218) (b1 := b1 + 19) (b2 := b2 + 87101) (n := 12) (t := 0) dX12_init_216 rfl (by decide) (by decide) (by decide) (by decide) rfl (fun h51 eh51 => ?_)
  replace K := K h51 eh51
  have ta : mT h51 a = 13 := mT_Al_lt eh51 lta ta
  have lta : a < mN h51 := mN_Al_lt eh51 lta
  refine mw_putRC (pc' := 221) dX12_init_218 rfl flX12_87 rfl (Or.inr ⟨rfl, rfl, rfl⟩) (ta) (fun h52 eh52 => ?_)
  replace K := K h52 eh52
  have ta : mT h52 a = 13 := by rw [eh52]; exact ta
  have lta : a < mN h52 := by rw [eh52]; exact lta
  refine mw_aload_n (pc' := 222) dX12_init_221 rfl rfl ?_
  refine mw_bipush (pc' := 224) (v := 12) dX12_init_222 rfl (by decide) ?_
  refine mw_newaC (pc' := 226) (b1 := b1 + 18) (b2 := b2 + 87089) (n := 12) (t := 0) dX12_init_224 rfl (by decide) (by decide) (by decide) (by decide) rfl (fun h53 eh53 => ?_)
  replace K := K h53 eh53
  have ta : mT h53 a = 13 := mT_Al_lt eh53 lta ta
  have lta : a < mN h53 := mN_Al_lt eh53 lta
  refine mw_putRC (pc' := 229) dX12_init_226 rfl flX12_90 rfl (Or.inr ⟨rfl, rfl, rfl⟩) (ta) (fun h54 eh54 => ?_)
  replace K := K h54 eh54
  have ta : mT h54 a = 13 := by rw [eh54]; exact ta
  have lta : a < mN h54 := by rw [eh54]; exact lta
  refine mw_aload_n (pc' := 230) dX12_init_229 rfl rfl ?_
  refine mw_bipush (pc' := 232) (v := 72) dX12_init_230 rfl (by decide) ?_
  refine mw_newaC (pc' := 234) (b1 := b1 + 17) (b2 := b2 + 87017) (n := 72) (t := 0) dX12_init_232 rfl (by decide) (by decide) (by decide) (by decide) rfl (fun h55 eh55 => ?_)
  replace K := K h55 eh55
  have ta : mT h55 a = 13 := mT_Al_lt eh55 lta ta
  have lta : a < mN h55 := mN_Al_lt eh55 lta
  refine mw_putRC (pc' := 237) dX12_init_234 rfl flX12_93 rfl (Or.inr ⟨rfl, rfl, rfl⟩) (ta) (fun h56 eh56 => ?_)
  replace K := K h56 eh56
  have ta : mT h56 a = 13 := by rw [eh56]; exact ta
  have lta : a < mN h56 := by rw [eh56]; exact lta
  refine mw_aload_n (pc' := 238) dX12_init_237 rfl rfl ?_
  refine mw_bipush (pc' := 240) (v := 72) dX12_init_238 rfl (by decide) ?_
  refine mw_newaC (pc' := 242) (b1 := b1 + 16) (b2 := b2 + 86945) (n := 72) (t := 0) dX12_init_240 rfl (by decide) (by decide) (by decide) (by decide) rfl (fun h57 eh57 => ?_)
  replace K := K h57 eh57
  have ta : mT h57 a = 13 := mT_Al_lt eh57 lta ta
  have lta : a < mN h57 := mN_Al_lt eh57 lta
  refine mw_putRC (pc' := 245) dX12_init_242 rfl flX12_96 rfl (Or.inr ⟨rfl, rfl, rfl⟩) (ta) (fun h58 eh58 => ?_)
  replace K := K h58 eh58
  have ta : mT h58 a = 13 := by rw [eh58]; exact ta
  have lta : a < mN h58 := by rw [eh58]; exact lta
  refine mw_aload_n (pc' := 246) dX12_init_245 rfl rfl ?_
  refine mw_bipush (pc' := 248) (v := 72) dX12_init_246 rfl (by decide) ?_
  refine mw_newaC (pc' := 250) (b1 := b1 + 15) (b2 := b2 + 86873) (n := 72) (t := 0) dX12_init_248 rfl (by decide) (by decide) (by decide) (by decide) rfl (fun h59 eh59 => ?_)
  replace K := K h59 eh59
  have ta : mT h59 a = 13 := mT_Al_lt eh59 lta ta
  have lta : a < mN h59 := mN_Al_lt eh59 lta
  refine mw_putRC (pc' := 253) dX12_init_250 rfl flX12_99 rfl (Or.inr ⟨rfl, rfl, rfl⟩) (ta) (fun h60 eh60 => ?_)
  replace K := K h60 eh60
  have ta : mT h60 a = 13 := by rw [eh60]; exact ta
  have lta : a < mN h60 := by rw [eh60]; exact lta
  refine mw_aload_n (pc' := 254) dX12_init_253 rfl rfl ?_
  refine mw_sipush (pc' := 257) (v := 12288) dX12_init_254 rfl (by decide) ?_
  refine mw_newaC (pc' := 259) (b1 := b1 + 14) (b2 := b2 + 74585) (n := 12288) (t := 0) dX12_init_257 rfl (by decide) (by decide) (by decide) (by decide) rfl (fun h61 eh61 => ?_)
  replace K := K h61 eh61
  have ta : mT h61 a = 13 := mT_Al_lt eh61 lta ta
  have lta : a < mN h61 := mN_Al_lt eh61 lta
  refine mw_putRC (pc' := 262) dX12_init_259 rfl flX12_102 rfl (Or.inr ⟨rfl, rfl, rfl⟩) (ta) (fun h62 eh62 => ?_)
  replace K := K h62 eh62
  have ta : mT h62 a = 13 := by rw [eh62]; exact ta
  have lta : a < mN h62 := by rw [eh62]; exact lta
  refine mw_aload_n (pc' := 263) dX12_init_262 rfl rfl ?_
  refine mw_sipush (pc' := 266) (v := 12288) dX12_init_263 rfl (by decide) ?_
  refine mw_newaC (pc' := 268) (b1 := b1 + 13) (b2 := b2 + 62297) (n := 12288) (t := 0) dX12_init_266 rfl (by decide) (by decide) (by decide) (by decide) rfl (fun h63 eh63 => ?_)
  replace K := K h63 eh63
  have ta : mT h63 a = 13 := mT_Al_lt eh63 lta ta
  have lta : a < mN h63 := mN_Al_lt eh63 lta
  refine mw_putRC (pc' := 271) dX12_init_268 rfl flX12_105 rfl (Or.inr ⟨rfl, rfl, rfl⟩) (ta) (fun h64 eh64 => ?_)
  replace K := K h64 eh64
  have ta : mT h64 a = 13 := by rw [eh64]; exact ta
  have lta : a < mN h64 := by rw [eh64]; exact lta
  refine mw_aload_n (pc' := 272) dX12_init_271 rfl rfl ?_
  refine mw_sipush (pc' := 275) (v := 12288) dX12_init_272 rfl (by decide) ?_
  refine mw_newaC (pc' := 277) (b1 := b1 + 12) (b2 := b2 + 50009) (n := 12288) (t := 0) dX12_init_275 rfl (by decide) (by decide) (by decide) (by decide) rfl (fun h65 eh65 => ?_)
  replace K := K h65 eh65
  have ta : mT h65 a = 13 := mT_Al_lt eh65 lta ta
  have lta : a < mN h65 := mN_Al_lt eh65 lta
  refine mw_putRC (pc' := 280) dX12_init_277 rfl flX12_108 rfl (Or.inr ⟨rfl, rfl, rfl⟩) (ta) (fun h66 eh66 => ?_)
  replace K := K h66 eh66
  have ta : mT h66 a = 13 := by rw [eh66]; exact ta
  have lta : a < mN h66 := by rw [eh66]; exact lta
  refine mw_aload_n (pc' := 281) dX12_init_280 rfl rfl ?_
  refine mw_bipush (pc' := 283) (v := 6) dX12_init_281 rfl (by decide) ?_
  refine mw_newaC (pc' := 285) (b1 := b1 + 11) (b2 := b2 + 50003) (n := 6) (t := 0) dX12_init_283 rfl (by decide) (by decide) (by decide) (by decide) rfl (fun h67 eh67 => ?_)
  replace K := K h67 eh67
  have ta : mT h67 a = 13 := mT_Al_lt eh67 lta ta
  have lta : a < mN h67 := mN_Al_lt eh67 lta
  refine mw_putRC (pc' := 288) dX12_init_285 rfl flX12_111 rfl (Or.inr ⟨rfl, rfl, rfl⟩) (ta) (fun h68 eh68 => ?_)
  replace K := K h68 eh68
  have ta : mT h68 a = 13 := by rw [eh68]; exact ta
  have lta : a < mN h68 := by rw [eh68]; exact lta
  refine mw_aload_n (pc' := 289) dX12_init_288 rfl rfl ?_
  refine mw_bipush (pc' := 291) (v := 6) dX12_init_289 rfl (by decide) ?_
  refine mw_newaC (pc' := 293) (b1 := b1 + 10) (b2 := b2 + 49997) (n := 6) (t := 0) dX12_init_291 rfl (by decide) (by decide) (by decide) (by decide) rfl (fun h69 eh69 => ?_)
  replace K := K h69 eh69
  have ta : mT h69 a = 13 := mT_Al_lt eh69 lta ta
  have lta : a < mN h69 := mN_Al_lt eh69 lta
  refine mw_putRC (pc' := 296) dX12_init_293 rfl flX12_114 rfl (Or.inr ⟨rfl, rfl, rfl⟩) (ta) (fun h70 eh70 => ?_)
  replace K := K h70 eh70
  have ta : mT h70 a = 13 := by rw [eh70]; exact ta
  have lta : a < mN h70 := by rw [eh70]; exact lta
  refine mw_aload_n (pc' := 297) dX12_init_296 rfl rfl ?_
  refine mw_bipush (pc' := 299) (v := 6) dX12_init_297 rfl (by decide) ?_
  refine mw_newaC (pc' := 301) (b1 := b1 + 9) (b2 := b2 + 49991) (n := 6) (t := 0) dX12_init_299 rfl (by decide) (by decide) (by decide) (by decide) rfl (fun h71 eh71 => ?_)
  replace K := K h71 eh71
  have ta : mT h71 a = 13 := mT_Al_lt eh71 lta ta
  have lta : a < mN h71 := mN_Al_lt eh71 lta
  refine mw_putRC (pc' := 304) dX12_init_301 rfl flX12_117 rfl (Or.inr ⟨rfl, rfl, rfl⟩) (ta) (fun h72 eh72 => ?_)
  replace K := K h72 eh72
  have ta : mT h72 a = 13 := by rw [eh72]; exact ta
  have lta : a < mN h72 := by rw [eh72]; exact lta
  refine mw_aload_n (pc' := 305) dX12_init_304 rfl rfl ?_
  refine mw_sipush (pc' := 308) (v := 8192) dX12_init_305 rfl (by decide) ?_
  refine mw_newaC (pc' := 310) (b1 := b1 + 8) (b2 := b2 + 41799) (n := 8192) (t := 0) dX12_init_308 rfl (by decide) (by decide) (by decide) (by decide) rfl (fun h73 eh73 => ?_)
  replace K := K h73 eh73
  have ta : mT h73 a = 13 := mT_Al_lt eh73 lta ta
  have lta : a < mN h73 := mN_Al_lt eh73 lta
  refine mw_putRC (pc' := 313) dX12_init_310 rfl flX12_120 rfl (Or.inr ⟨rfl, rfl, rfl⟩) (ta) (fun h74 eh74 => ?_)
  replace K := K h74 eh74
  have ta : mT h74 a = 13 := by rw [eh74]; exact ta
  have lta : a < mN h74 := by rw [eh74]; exact lta
  refine mw_aload_n (pc' := 314) dX12_init_313 rfl rfl ?_
  refine mw_sipush (pc' := 317) (v := 8192) dX12_init_314 rfl (by decide) ?_
  refine mw_newaC (pc' := 319) (b1 := b1 + 7) (b2 := b2 + 33607) (n := 8192) (t := 0) dX12_init_317 rfl (by decide) (by decide) (by decide) (by decide) rfl (fun h75 eh75 => ?_)
  replace K := K h75 eh75
  have ta : mT h75 a = 13 := mT_Al_lt eh75 lta ta
  have lta : a < mN h75 := mN_Al_lt eh75 lta
  refine mw_putRC (pc' := 322) dX12_init_319 rfl flX12_123 rfl (Or.inr ⟨rfl, rfl, rfl⟩) (ta) (fun h76 eh76 => ?_)
  replace K := K h76 eh76
  have ta : mT h76 a = 13 := by rw [eh76]; exact ta
  have lta : a < mN h76 := by rw [eh76]; exact lta
  refine mw_aload_n (pc' := 323) dX12_init_322 rfl rfl ?_
  refine mw_bipush (pc' := 325) (v := 65) dX12_init_323 rfl (by decide) ?_
  refine mw_newaC (pc' := 327) (b1 := b1 + 6) (b2 := b2 + 33542) (n := 65) (t := 0) dX12_init_325 rfl (by decide) (by decide) (by decide) (by decide) rfl (fun h77 eh77 => ?_)
  replace K := K h77 eh77
  have ta : mT h77 a = 13 := mT_Al_lt eh77 lta ta
  have lta : a < mN h77 := mN_Al_lt eh77 lta
  refine mw_putRC (pc' := 330) dX12_init_327 rfl flX12_126 rfl (Or.inr ⟨rfl, rfl, rfl⟩) (ta) (fun h78 eh78 => ?_)
  replace K := K h78 eh78
  have ta : mT h78 a = 13 := by rw [eh78]; exact ta
  have lta : a < mN h78 := by rw [eh78]; exact lta
  refine mw_aload_n (pc' := 331) dX12_init_330 rfl rfl ?_
  refine mw_sipush (pc' := 334) (v := 25350) dX12_init_331 rfl (by decide) ?_
  refine mw_newaC (pc' := 336) (b1 := b1 + 5) (b2 := b2 + 8192) (n := 25350) (t := 0) dX12_init_334 rfl (by decide) (by decide) (by decide) (by decide) rfl (fun h79 eh79 => ?_)
  replace K := K h79 eh79
  have ta : mT h79 a = 13 := mT_Al_lt eh79 lta ta
  have lta : a < mN h79 := mN_Al_lt eh79 lta
  refine mw_putRC (pc' := 339) dX12_init_336 rfl flX12_129 rfl (Or.inr ⟨rfl, rfl, rfl⟩) (ta) (fun h80 eh80 => ?_)
  replace K := K h80 eh80
  have ta : mT h80 a = 13 := by rw [eh80]; exact ta
  have lta : a < mN h80 := by rw [eh80]; exact lta
  refine mw_aload_n (pc' := 340) dX12_init_339 rfl rfl ?_
  refine mw_sipush (pc' := 343) (v := 1024) dX12_init_340 rfl (by decide) ?_
  refine mw_newaC (pc' := 345) (b1 := b1 + 4) (b2 := b2 + 7168) (n := 1024) (t := 1) dX12_init_343 rfl (by decide) (by decide) (by decide) (by decide) rfl (fun h81 eh81 => ?_)
  replace K := K h81 eh81
  have ta : mT h81 a = 13 := mT_Al_lt eh81 lta ta
  have lta : a < mN h81 := mN_Al_lt eh81 lta
  refine mw_putRC (pc' := 348) dX12_init_345 rfl flX12_132 rfl (Or.inr ⟨rfl, rfl, rfl⟩) (ta) (fun h82 eh82 => ?_)
  replace K := K h82 eh82
  have ta : mT h82 a = 13 := by rw [eh82]; exact ta
  have lta : a < mN h82 := by rw [eh82]; exact lta
  refine mw_aload_n (pc' := 349) dX12_init_348 rfl rfl ?_
  refine mw_sipush (pc' := 352) (v := 4096) dX12_init_349 rfl (by decide) ?_
  refine mw_newaC (pc' := 354) (b1 := b1 + 3) (b2 := b2 + 3072) (n := 4096) (t := 0) dX12_init_352 rfl (by decide) (by decide) (by decide) (by decide) rfl (fun h83 eh83 => ?_)
  replace K := K h83 eh83
  have ta : mT h83 a = 13 := mT_Al_lt eh83 lta ta
  have lta : a < mN h83 := mN_Al_lt eh83 lta
  refine mw_putRC (pc' := 357) dX12_init_354 rfl flX12_135 rfl (Or.inr ⟨rfl, rfl, rfl⟩) (ta) (fun h84 eh84 => ?_)
  replace K := K h84 eh84
  have ta : mT h84 a = 13 := by rw [eh84]; exact ta
  have lta : a < mN h84 := by rw [eh84]; exact lta
  refine mw_aload_n (pc' := 358) dX12_init_357 rfl rfl ?_
  refine mw_sipush (pc' := 361) (v := 1024) dX12_init_358 rfl (by decide) ?_
  refine mw_newaC (pc' := 363) (b1 := b1 + 2) (b2 := b2 + 2048) (n := 1024) (t := 1) dX12_init_361 rfl (by decide) (by decide) (by decide) (by decide) rfl (fun h85 eh85 => ?_)
  replace K := K h85 eh85
  have ta : mT h85 a = 13 := mT_Al_lt eh85 lta ta
  have lta : a < mN h85 := mN_Al_lt eh85 lta
  refine mw_putRC (pc' := 366) dX12_init_363 rfl flX12_138 rfl (Or.inr ⟨rfl, rfl, rfl⟩) (ta) (fun h86 eh86 => ?_)
  replace K := K h86 eh86
  have ta : mT h86 a = 13 := by rw [eh86]; exact ta
  have lta : a < mN h86 := by rw [eh86]; exact lta
  refine mw_aload_n (pc' := 367) dX12_init_366 rfl rfl ?_
  refine mw_sipush (pc' := 370) (v := 1024) dX12_init_367 rfl (by decide) ?_
  refine mw_newaC (pc' := 372) (b1 := b1 + 1) (b2 := b2 + 1024) (n := 1024) (t := 1) dX12_init_370 rfl (by decide) (by decide) (by decide) (by decide) rfl (fun h87 eh87 => ?_)
  replace K := K h87 eh87
  have ta : mT h87 a = 13 := mT_Al_lt eh87 lta ta
  have lta : a < mN h87 := mN_Al_lt eh87 lta
  refine mw_putRC (pc' := 375) dX12_init_372 rfl flX12_141 rfl (Or.inr ⟨rfl, rfl, rfl⟩) (ta) (fun h88 eh88 => ?_)
  replace K := K h88 eh88
  have ta : mT h88 a = 13 := by rw [eh88]; exact ta
  have lta : a < mN h88 := by rw [eh88]; exact lta
  refine mw_aload_n (pc' := 376) dX12_init_375 rfl rfl ?_
  refine mw_sipush (pc' := 379) (v := 1024) dX12_init_376 rfl (by decide) ?_
  refine mw_newaC (pc' := 381) (b1 := b1) (b2 := b2) (n := 1024) (t := 0) dX12_init_379 rfl (by decide) (by decide) (by decide) (by decide) rfl (fun h89 eh89 => ?_)
  replace K := K h89 eh89
  have ta : mT h89 a = 13 := mT_Al_lt eh89 lta ta
  have lta : a < mN h89 := mN_Al_lt eh89 lta
  refine mw_putRC (pc' := 384) dX12_init_381 rfl flX12_144 rfl (Or.inr ⟨rfl, rfl, rfl⟩) (ta) (fun h90 eh90 => ?_)
  replace K := K h90 eh90
  have ta : mT h90 a = 13 := by rw [eh90]; exact ta
  have lta : a < mN h90 := by rw [eh90]; exact lta
  refine mw_aload_n (pc' := 385) dX12_init_384 rfl rfl ?_
  refine mw_bipush (pc' := 387) (v := 31) dX12_init_385 rfl (by decide) ?_
  refine mw_putIC (pc' := 390) dX12_init_387 rfl flX12_147 rfl (Or.inl rfl) ⟨rfl, rfl⟩ (ta) (fun h91 eh91 => ?_)
  replace K := K h91 eh91
  have ta : mT h91 a = 13 := by rw [eh91]; exact ta
  have lta : a < mN h91 := by rw [eh91]; exact lta
  refine mw_aload_n (pc' := 391) dX12_init_390 rfl rfl ?_
  refine mw_bipush (pc' := 393) (v := 31) dX12_init_391 rfl (by decide) ?_
  refine mw_putIC (pc' := 396) dX12_init_393 rfl flX12_151 rfl (Or.inl rfl) ⟨rfl, rfl⟩ (ta) (fun h92 eh92 => ?_)
  replace K := K h92 eh92
  have ta : mT h92 a = 13 := by rw [eh92]; exact ta
  have lta : a < mN h92 := by rw [eh92]; exact lta
  exact mw_ret dX12_init_396 rfl K

set_option maxRecDepth 100000 in
set_option maxHeartbeats 4000000 in
theorem qJ7_fill_53178 {G : mG} {d : Nat} {b : Nat × Nat} {h : mH} {Q : Option mV → mH → Prop} (a1 : Nat) (v2 : Int32) (ta1 : mT h a1 = 100) (hS : mSk h)
    (K : mW G kJ7_fill_53178 d b 5 [some (.inr (some a1)), some (.inl v2), some (.inl 0), some (.inl (nI (mL h a1)))] [] h Q) : mC G kJ7_fill_53178 d b [.inr (some a1), .inl v2] h Q := by
  refine mC_in rfl (Nat.le_of_ble_eq_true rfl) ?_
  show mW _ _ _ _ _ [some (.inr (some a1)), some (.inl v2), none, none] _ _ _
  refine mw_iconst (pc' := 1) (v := 0) dJ7_fill_53178_0 rfl (by decide) ?_
  refine mw_istore_n (pc' := 2) dJ7_fill_53178_1 rfl (by decide) ?_
  show mW _ _ _ _ _ [some (.inr (some a1)), some (.inl v2), some (.inl 0), none] _ _ _
  refine mw_aload_n (pc' := 3) dJ7_fill_53178_2 rfl rfl ?_
  refine mw_alen (pc' := 4) (t := 0) dJ7_fill_53178_3 rfl (by decide) (ta1) ?_
  refine mw_istore_n (pc' := 5) dJ7_fill_53178_4 rfl (by decide) ?_
  show mW _ _ _ _ _ [some (.inr (some a1)), some (.inl v2), some (.inl 0), some (.inl (nI (mL h a1)))] _ _ _
  exact K

set_option maxRecDepth 100000 in
set_option maxHeartbeats 4000000 in
theorem qJ7_fill_53178_5 {G : mG} {d : Nat} {b : Nat × Nat} {h : mH} {Q : Option mV → mH → Prop} (a0 : Nat) (v1 : Int32) (v2 : Int32) (v3 : Int32) (ta0 : mT h a0 = 100) (hS : mSk h)
    (K : ((v3 ≤ v2 → Q none h) ∧ (¬ (v3 ≤ v2) → vp_in v2 (mL h a0) ∧ ∀ h2, h2 = mSI h a0 v2.toNatClampNeg v1 → mW G kJ7_fill_53178 d b 5 [some (.inr (some a0)), some (.inl v1), some (.inl (v2 + 1)), some (.inl v3)] [] h2 Q))) : mW G kJ7_fill_53178 d b 5 [some (.inr (some a0)), some (.inl v1), some (.inl v2), some (.inl v3)] [] h Q := by
  refine mw_iload_n (pc' := 6) dJ7_fill_53178_5 rfl rfl ?_
  refine mw_iload_n (pc' := 7) dJ7_fill_53178_6 rfl rfl ?_
  refine mw_icmp_ge (pc' := 10) (tgt := 20) dJ7_fill_53178_7 rfl (by decide) (fun c3 => ?_) (fun c3 => ?_)
  · replace K := K.1 c3
    exact mw_ret dJ7_fill_53178_20 rfl K
  · replace K := K.2 c3
    refine mw_aload_n (pc' := 11) dJ7_fill_53178_10 rfl rfl ?_
    refine mw_iload_n (pc' := 12) dJ7_fill_53178_11 rfl rfl ?_
    refine mw_iload_n (pc' := 13) dJ7_fill_53178_12 rfl rfl ?_
    obtain ⟨o1, K⟩ := K
    refine mw_iastK (pc' := 14) dJ7_fill_53178_13 rfl (ta0) (rfl) o1 hS (fun h2 eh2 hS => ?_)
    replace K := K h2 eh2
    have ta0 : mT h2 a0 = 100 := by rw [eh2]; exact ta0
    refine mw_iinc (pc' := 17) (v := v2 + 1) dJ7_fill_53178_14 rfl (by decide) rfl rfl ?_
    show mW _ _ _ _ _ [some (.inr (some a0)), some (.inl v1), some (.inl (v2 + 1)), some (.inl v3)] _ _ _
    refine mw_goto (tgt := 5) dJ7_fill_53178_17 (by decide) ?_
    exact K
