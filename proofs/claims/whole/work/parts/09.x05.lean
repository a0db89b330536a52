set_option maxRecDepth 100000 in
set_option maxHeartbeats 4000000 in
theorem qX5_addNote {G : mG} {d : Nat} {b1 b2 : Nat} {h : mH} {Q : Option mV → mH → Prop} (a : Nat) (v1 : Int32) (v2 : Int32) (v3 : Int32) (v4 : Int32) (ta : mT h a = 6) (hS : mSk h)
    (K : (((mI h a 5) < 6 → vp_in (mI h a 5) 6 ∧ ((mR h (a + 1) (mI h a 5).toNatClampNeg = none → ∀ h3, h3 = mAl h 8 0 → mC G kX7_init (d + 2) (2, 512) [.inr (some (mN h))] h3 (fun r h5 => r = none ∧ mSk h5 ∧ mT h5 a = 6 ∧ mT h5 (mN h) = 8 ∧ vp_in (mI h a 5) 6 ∧ ∀ h7, h7 = mSR h5 (a + 1) (mI h a 5).toNatClampNeg (some (mN h)) → vp_in (mI h7 a 5) 6 ∧ ∃ y9, mR h7 (a + 1) (mI h7 a 5).toNatClampNeg = some y9 ∧ mT h7 y9 = 8 ∧ mC G kX7_tell (d + 2) (0, 0) [.inr (some y9), .inl v1, .inl v2, .inl v3, .inl v4] h7 (fun r h10 => r = none ∧ mSk h10 ∧ mT h10 a = 6 ∧ mT h10 (mN h) = 8 ∧ mT h10 y9 = 8 ∧ ∀ h11, h11 = mSI h10 a 5 ((mI h10 a 5) + 1) → Q none h11))) ∧ (∀ y2, mR h (a + 1) (mI h a 5).toNatClampNeg = some y2 → mT h y2 = 8 ∧ vp_in (mI h a 5) 6 ∧ ∃ y13, mR h (a + 1) (mI h a 5).toNatClampNeg = some y13 ∧ mT h y13 = 8 ∧ mC G kX7_tell (d + 2) (0, 0) [.inr (some y13), .inl v1, .inl v2, .inl v3, .inl v4] h (fun r h14 => r = none ∧ mSk h14 ∧ mT h14 a = 6 ∧ mT h14 y2 = 8 ∧ mT h14 y13 = 8 ∧ ∀ h15, h15 = mSI h14 a 5 ((mI h14 a 5) + 1) → Q none h15)))) ∧ (¬ ((mI h a 5) < 6) → Q none h))) : mC G kX5_addNote (d + 3) (b1 + 3, b2 + 518) [.inr (some a), .inl v1, .inl v2, .inl v3, .inl v4] h Q := by
  refine mC_in rfl (Nat.le_of_ble_eq_true rfl) ?_
  show mW _ _ _ _ _ [some (.inr (some a)), some (.inl v1), some (.inl v2), some (.inl v3), some (.inl v4)] _ _ _
  refine mw_aload_n (pc' := 1) dX5_addNote_0 rfl rfl ?_
  refine mw_getI (pc' := 4) dX5_addNote_1 rfl flX5_17 rfl (ta) ?_
  refine mw_bipush (pc' := 6) (v := 6) dX5_addNote_4 rfl (by decide) ?_
  refine mw_icmp_lt (pc' := 9) (tgt := 10) dX5_addNote_6 rfl (by decide) (fun c17 => ?_) (fun c17 => ?_)
  · replace K := K.1 c17
    refine mw_aload_n (pc' := 11) dX5_addNote_10 rfl rfl ?_
    refine mw_getR (pc' := 14) dX5_addNote_11 rfl flX5_11 rfl (ta) ?_
    rw [skBR_5_6 hS ta]
    refine mw_aload_n (pc' := 15) dX5_addNote_14 rfl rfl ?_
    refine mw_getI (pc' := 18) dX5_addNote_15 rfl flX5_17 rfl (ta) ?_
    obtain ⟨o1, K⟩ := K
    refine mw_aaldL (pc' := 19) dX5_addNote_18 rfl (t := 2) (by decide) (skBT_5_1 hS ta) (skBL_5_1 hS ta) o1 ?_
    refine mw_ifnonnull (pc' := 22) (tgt := 38) dX5_addNote_19 rfl (by decide) (fun y2 c16 => ?_) (fun c16 => ?_)
    · obtain ⟨ty2, K⟩ := K.2 y2 c16
      try rw [c16]
      refine mw_aload_n (pc' := 39) dX5_addNote_38 rfl rfl ?_
      refine mw_getR (pc' := 42) dX5_addNote_39 rfl flX5_11 rfl (ta) ?_
      rw [skBR_5_6 hS ta]
      refine mw_aload_n (pc' := 43) dX5_addNote_42 rfl rfl ?_
      refine mw_getI (pc' := 46) dX5_addNote_43 rfl flX5_17 rfl (ta) ?_
      obtain ⟨o12, K⟩ := K
      refine mw_aaldL (pc' := 47) dX5_addNote_46 rfl (t := 2) (by decide) (skBT_5_1 hS ta) (skBL_5_1 hS ta) o12 ?_
      refine mw_iload_n (pc' := 48) dX5_addNote_47 rfl rfl ?_
      refine mw_iload_n (pc' := 49) dX5_addNote_48 rfl rfl ?_
      refine mw_iload_n (pc' := 50) dX5_addNote_49 rfl rfl ?_
      refine mw_iload (pc' := 52) dX5_addNote_50 rfl rfl ?_
      obtain ⟨y13, ey13, ty13, K⟩ := K
      rw [ey13]
      refine mw_callV (pc' := 55) (b' := (0, 0)) (b1 := (b1 + 3, b2 + 518)) (av := [.inl v1, .inl v2, .inl v3, .inl v4]) (rest := []) dX5_addNote_52 rfl lkX5_22 rfl rfl (Nat.le_of_ble_eq_true rfl) ⟨Nat.le_of_eq (Nat.zero_add _), Nat.le_of_eq (Nat.zero_add _)⟩ (ty13) ?_
      refine mC_mono (fun r h14 hr => ?_) K
      obtain ⟨rfl, hS, ta, ty2, ty13, K⟩ := hr
      show mW _ _ _ _ _ _ [] _ _
      refine mw_aload_n (pc' := 56) dX5_addNote_55 rfl rfl ?_
      refine mw_dup (pc' := 57) dX5_addNote_56 rfl ?_
      refine mw_getI (pc' := 60) dX5_addNote_57 rfl flX5_17 rfl (ta) ?_
      refine mw_iconst (pc' := 61) (v := 1) dX5_addNote_60 rfl (by decide) ?_
      refine mw_iadd (pc' := 62) dX5_addNote_61 rfl ?_
      refine mw_putIK (pc' := 65) dX5_addNote_62 rfl flX5_17 rfl (Or.inl rfl) ⟨rfl, rfl⟩ (ta) hS (fun h15 eh15 hS => ?_)
      replace K := K h15 eh15
      have ta : mT h15 a = 6 := by rw [eh15]; exact ta
      have ty2 : mT h15 y2 = 8 := by rw [eh15]; exact ty2
      have ty13 : mT h15 y13 = 8 := by rw [eh15]; exact ty13
      exact mw_ret dX5_addNote_65 rfl K
    · replace K := K.1 c16
      try rw [c16]
      refine mw_aload_n (pc' := 23) dX5_addNote_22 rfl rfl ?_
      refine mw_getR (pc' := 26) dX5_addNote_23 rfl flX5_11 rfl (ta) ?_
      rw [skBR_5_6 hS ta]
      refine mw_aload_n (pc' := 27) dX5_addNote_26 rfl rfl ?_
      refine mw_getI (pc' := 30) dX5_addNote_27 rfl flX5_17 rfl (ta) ?_
      have hSo := hS
      refine mw_newK (pc' := 33) (b1 := b1 + 2) (b2 := b2 + 512) (ci := 7) (N := 6) dX5_addNote_30 rfl rfl nwX5_9 (by decide) rfl hS (fun h3 eh3 hS => ?_)
      replace K := K h3 eh3
      have ta : mT h3 a = 6 := mT_Al_old hSo eh3 ta (by decide)
      have tn4 : mT h3 (mN h) = 8 := by rw [eh3]; exact mAl_T
      refine mw_dup (pc' := 34) dX5_addNote_33 rfl ?_
      refine mw_callI (pc' := 37) (b' := (2, 512)) (b1 := (b1, b2)) (av := []) (rest := [.inr (some (mN h)), .inl (mI h a 5), .inr (some (a + 1))]) dX5_addNote_34 rfl lkX5_21 rfl rfl (Nat.le_of_ble_eq_true rfl) ⟨by dsimp only; omega, by dsimp only; omega⟩ ?_
      refine mC_mono (fun r h5 hr => ?_) K
      obtain ⟨rfl, hS, ta, tn4, K⟩ := hr
      show mW _ _ _ _ _ _ [.inr (some (mN h)), .inl (mI h a 5), .inr (some (a + 1))] _ _
      obtain ⟨o6, K⟩ := K
      refine mw_aastK (pc' := 38) dX5_addNote_37 rfl (t := 2) (by decide) (skBT_5_1 hS ta) (skBL_5_1 hS ta) o6 (tn4) hS (fun h7 eh7 hS => ?_)
      replace K := K h7 eh7
      have ta : mT h7 a = 6 := by rw [eh7]; exact ta
      have tn4 : mT h7 (mN h) = 8 := by rw [eh7]; exact tn4
      refine mw_aload_n (pc' := 39) dX5_addNote_38 rfl rfl ?_
      refine mw_getR (pc' := 42) dX5_addNote_39 rfl flX5_11 rfl (ta) ?_
      rw [skBR_5_6 hS ta]
      refine mw_aload_n (pc' := 43) dX5_addNote_42 rfl rfl ?_
      refine mw_getI (pc' := 46) dX5_addNote_43 rfl flX5_17 rfl (ta) ?_
      obtain ⟨o8, K⟩ := K
      refine mw_aaldL (pc' := 47) dX5_addNote_46 rfl (t := 2) (by decide) (skBT_5_1 hS ta) (skBL_5_1 hS ta) o8 ?_
      refine mw_iload_n (pc' := 48) dX5_addNote_47 rfl rfl ?_
      refine mw_iload_n (pc' := 49) dX5_addNote_48 rfl rfl ?_
      refine mw_iload_n (pc' := 50) dX5_addNote_49 rfl rfl ?_
      refine mw_iload (pc' := 52) dX5_addNote_50 rfl rfl ?_
      obtain ⟨y9, ey9, ty9, K⟩ := K
      rw [ey9]
      refine mw_callV (pc' := 55) (b' := (0, 0)) (b1 := (b1, b2)) (av := [.inl v1, .inl v2, .inl v3, .inl v4]) (rest := []) dX5_addNote_52 rfl lkX5_22 rfl rfl (Nat.le_of_ble_eq_true rfl) ⟨Nat.le_of_eq (Nat.zero_add _), Nat.le_of_eq (Nat.zero_add _)⟩ (ty9) ?_
      refine mC_mono (fun r h10 hr => ?_) K
      obtain ⟨rfl, hS, ta, tn4, ty9, K⟩ := hr
      show mW _ _ _ _ _ _ [] _ _
      refine mw_aload_n (pc' := 56) dX5_addNote_55 rfl rfl ?_
      refine mw_dup (pc' := 57) dX5_addNote_56 rfl ?_
      refine mw_getI (pc' := 60) dX5_addNote_57 rfl flX5_17 rfl (ta) ?_
      refine mw_iconst (pc' := 61) (v := 1) dX5_addNote_60 rfl (by decide) ?_
      refine mw_iadd (pc' := 62) dX5_addNote_61 rfl ?_
      refine mw_putIK (pc' := 65) dX5_addNote_62 rfl flX5_17 rfl (Or.inl rfl) ⟨rfl, rfl⟩ (ta) hS (fun h11 eh11 hS => ?_)
      replace K := K h11 eh11
      have ta : mT h11 a = 6 := by rw [eh11]; exact ta
      have tn4 : mT h11 (mN h) = 8 := by rw [eh11]; exact tn4
      have ty9 : mT h11 y9 = 8 := by rw [eh11]; exact ty9
      exact mw_ret dX5_addNote_65 rfl K
  · replace K := K.2 c17
    exact mw_ret dX5_addNote_9 rfl K
