set_option maxRecDepth 100000 in
set_option maxHeartbeats 4000000 in
theorem qX6_add {G : mG} {d : Nat} {b1 b2 : Nat} {h : mH} {Q : Option mV → mH → Prop} (v1 : Int32) (v2 : Int32) (v3 : Int32) (v4 : Int32) (v5 : Int32) (hS : mSk h)
    (K : (((mI h 28 1) < 12 → vp_in (mI h 28 1) 12 ∧ ((mR h 29 (mI h 28 1).toNatClampNeg = none → ∀ h3, h3 = mAl h 6 0 → mC G kX5_init (d + 1) (1, 6) [.inr (some (mN h))] h3 (fun r h5 => r = none ∧ mSk h5 ∧ mT h5 (mN h) = 6 ∧ vp_in (mI h 28 1) 12 ∧ ∀ h7, h7 = mSR h5 29 (mI h 28 1).toNatClampNeg (some (mN h)) → vp_in (mI h7 28 1) 12 ∧ ∃ y9, mR h7 29 (mI h7 28 1).toNatClampNeg = some y9 ∧ mT h7 y9 = 6 ∧ ∀ h10, h10 = mSI h7 y9 0 v1 → ∀ h11, h11 = mSI h10 y9 1 v2 → ∀ h12, h12 = mSI h11 y9 2 v3 → ∀ h13, h13 = mSI h12 y9 3 v4 → ∀ h14, h14 = mSI h13 y9 4 v5 → ∀ h15, h15 = mSI h14 y9 5 0 → ∀ h16, h16 = mSI h15 28 1 ((mI h15 28 1) + 1) → Q none h16)) ∧ (∀ y2, mR h 29 (mI h 28 1).toNatClampNeg = some y2 → mT h y2 = 6 ∧ vp_in (mI h 28 1) 12 ∧ ∃ y18, mR h 29 (mI h 28 1).toNatClampNeg = some y18 ∧ mT h y18 = 6 ∧ ∀ h19, h19 = mSI h y18 0 v1 → ∀ h20, h20 = mSI h19 y18 1 v2 → ∀ h21, h21 = mSI h20 y18 2 v3 → ∀ h22, h22 = mSI h21 y18 3 v4 → ∀ h23, h23 = mSI h22 y18 4 v5 → ∀ h24, h24 = mSI h23 y18 5 0 → ∀ h25, h25 = mSI h24 28 1 ((mI h24 28 1) + 1) → Q none h25))) ∧ (¬ ((mI h 28 1) < 12) → Q none h))) : mC G kX6_add (d + 2) (b1 + 2, b2 + 13) [.inr (some 28), .inl v1, .inl v2, .inl v3, .inl v4, .inl v5] h Q := by
  refine mC_in rfl (Nat.le_of_ble_eq_true rfl) ?_
  show mW _ _ _ _ _ [some (.inr (some 28)), some (.inl v1), some (.inl v2), some (.inl v3), some (.inl v4), some (.inl v5), none] _ _ _
  refine mw_aload_n (pc' := 1) dX6_add_0 rfl rfl ?_
  refine mw_getI (pc' := 4) dX6_add_1 rfl flX6_41 rfl (skT_28 hS) ?_
  refine mw_bipush (pc' := 6) (v := 12) dX6_add_4 rfl (by decide) ?_
  refine mw_icmp_lt (pc' := 9) (tgt := 10) dX6_add_6 rfl (by decide) (fun c27 => ?_) (fun c27 => ?_)
  · replace K := K.1 c27
    refine mw_aload_n (pc' := 11) dX6_add_10 rfl rfl ?_
    refine mw_getR (pc' := 14) dX6_add_11 rfl flX6_11 rfl (skT_28 hS) ?_
    rw [skR_28_0 hS]
    refine mw_aload_n (pc' := 15) dX6_add_14 rfl rfl ?_
    refine mw_getI (pc' := 18) dX6_add_15 rfl flX6_41 rfl (skT_28 hS) ?_
    obtain ⟨o1, K⟩ := K
    refine mw_aaldL (pc' := 19) dX6_add_18 rfl (t := 1) (by decide) (skT_29 hS) (skL_29 hS) o1 ?_
    refine mw_ifnonnull (pc' := 22) (tgt := 38) dX6_add_19 rfl (by decide) (fun y2 c26 => ?_) (fun c26 => ?_)
    · obtain ⟨ty2, K⟩ := K.2 y2 c26
      try rw [c26]
      refine mw_aload_n (pc' := 39) dX6_add_38 rfl rfl ?_
      refine mw_getR (pc' := 42) dX6_add_39 rfl flX6_11 rfl (skT_28 hS) ?_
      rw [skR_28_0 hS]
      refine mw_aload_n (pc' := 43) dX6_add_42 rfl rfl ?_
      refine mw_getI (pc' := 46) dX6_add_43 rfl flX6_41 rfl (skT_28 hS) ?_
      obtain ⟨o17, K⟩ := K
      refine mw_aaldL (pc' := 47) dX6_add_46 rfl (t := 1) (by decide) (skT_29 hS) (skL_29 hS) o17 ?_
      refine mw_astore (pc' := 49) dX6_add_47 rfl (by decide) ?_
      show mW _ _ _ _ _ [some (.inr (some 28)), some (.inl v1), some (.inl v2), some (.inl v3), some (.inl v4), some (.inl v5), some (.inr (mR h 29 (mI h 28 1).toNatClampNeg))] _ _ _
      refine mw_aload (pc' := 51) dX6_add_49 rfl rfl ?_
      refine mw_iload_n (pc' := 52) dX6_add_51 rfl rfl ?_
      obtain ⟨y18, ey18, ty18, K⟩ := K
      rw [ey18]
      refine mw_putIK (pc' := 55) dX6_add_52 rfl flX6_45 rfl (Or.inl rfl) ⟨rfl, rfl⟩ (ty18) hS (fun h19 eh19 hS => ?_)
      replace K := K h19 eh19
      have ty2 : mT h19 y2 = 6 := by rw [eh19]; exact ty2
      have ty18 : mT h19 y18 = 6 := by rw [eh19]; exact ty18
      refine mw_aload (pc' := 57) dX6_add_55 rfl rfl ?_
      refine mw_iload_n (pc' := 58) dX6_add_57 rfl rfl ?_
      refine mw_putIK (pc' := 61) dX6_add_58 rfl flX6_48 rfl (Or.inl rfl) ⟨rfl, rfl⟩ (ty18) hS (fun h20 eh20 hS => ?_)
      replace K := K h20 eh20
      have ty2 : mT h20 y2 = 6 := by rw [eh20]; exact ty2
      have ty18 : mT h20 y18 = 6 := by rw [eh20]; exact ty18
      refine mw_aload (pc' := 63) dX6_add_61 rfl rfl ?_
      refine mw_iload_n (pc' := 64) dX6_add_63 rfl rfl ?_
      refine mw_putIK (pc' := 67) dX6_add_64 rfl flX6_51 rfl (Or.inl rfl) ⟨rfl, rfl⟩ (ty18) hS (fun h21 eh21 hS => ?_)
      replace K := K h21 eh21
      have ty2 : mT h21 y2 = 6 := by rw [eh21]; exact ty2
      have ty18 : mT h21 y18 = 6 := by rw [eh21]; exact ty18
      refine mw_aload (pc' := 69) dX6_add_67 rfl rfl ?_
      refine mw_iload (pc' := 71) dX6_add_69 rfl rfl ?_
      refine mw_putIK (pc' := 74) dX6_add_71 rfl flX6_54 rfl (Or.inl rfl) ⟨rfl, rfl⟩ (ty18) hS (fun h22 eh22 hS => ?_)
      replace K := K h22 eh22
      have ty2 : mT h22 y2 = 6 := by rw [eh22]; exact ty2
      have ty18 : mT h22 y18 = 6 := by rw [eh22]; exact ty18
      refine mw_aload (pc' := 76) dX6_add_74 rfl rfl ?_
      refine mw_iload (pc' := 78) dX6_add_76 rfl rfl ?_
      refine mw_putIK (pc' := 81) dX6_add_78 rfl flX6_57 rfl (Or.inl rfl) ⟨rfl, rfl⟩ (ty18) hS (fun h23 eh23 hS => ?_)
      replace K := K h23 eh23
      have ty2 : mT h23 y2 = 6 := by rw [eh23]; exact ty2
      have ty18 : mT h23 y18 = 6 := by rw [eh23]; exact ty18
      refine mw_aload (pc' := 83) dX6_add_81 rfl rfl ?_
      refine mw_iconst (pc' := 84) (v := 0) dX6_add_83 rfl (by decide) ?_
      refine mw_putIK (pc' := 87) dX6_add_84 rfl flX6_60 rfl (Or.inl rfl) ⟨rfl, rfl⟩ (ty18) hS (fun h24 eh24 hS => ?_)
      replace K := K h24 eh24
      have ty2 : mT h24 y2 = 6 := by rw [eh24]; exact ty2
      have ty18 : mT h24 y18 = 6 := by rw [eh24]; exact ty18
      refine mw_aload_n (pc' := 88) dX6_add_87 rfl rfl ?_
      refine mw_dup (pc' := 89) dX6_add_88 rfl ?_
      refine mw_getI (pc' := 92) dX6_add_89 rfl flX6_41 rfl (skT_28 hS) ?_
      refine mw_iconst (pc' := 93) (v := 1) dX6_add_92 rfl (by decide) ?_
      refine mw_iadd (pc' := 94) dX6_add_93 rfl ?_
      refine mw_putIK (pc' := 97) dX6_add_94 rfl flX6_41 rfl (Or.inl rfl) ⟨rfl, rfl⟩ (skT_28 hS) hS (fun h25 eh25 hS => ?_)
      replace K := K h25 eh25
      have ty2 : mT h25 y2 = 6 := by rw [eh25]; exact ty2
      have ty18 : mT h25 y18 = 6 := by rw [eh25]; exact ty18
      exact mw_ret dX6_add_97 rfl K
    · replace K := K.1 c26
      try rw [c26]
      refine mw_aload_n (pc' := 23) dX6_add_22 rfl rfl ?_
      refine mw_getR (pc' := 26) dX6_add_23 rfl flX6_11 rfl (skT_28 hS) ?_
      rw [skR_28_0 hS]
      refine mw_aload_n (pc' := 27) dX6_add_26 rfl rfl ?_
      refine mw_getI (pc' := 30) dX6_add_27 rfl flX6_41 rfl (skT_28 hS) ?_
      have hSo := hS
      refine mw_newK (pc' := 33) (b1 := b1 + 1) (b2 := b2 + 6) (ci := 5) (N := 7) dX6_add_30 rfl rfl nwX6_9 (by decide) rfl hS (fun h3 eh3 hS => ?_)
      replace K := K h3 eh3
      have tn4 : mT h3 (mN h) = 6 := by rw [eh3]; exact mAl_T
      refine mw_dup (pc' := 34) dX6_add_33 rfl ?_
      refine mw_callI (pc' := 37) (b' := (1, 6)) (b1 := (b1, b2)) (av := []) (rest := [.inr (some (mN h)), .inl (mI h 28 1), .inr (some 29)]) dX6_add_34 rfl lkX6_44 rfl rfl (Nat.le_of_ble_eq_true rfl) ⟨by dsimp only; omega, by dsimp only; omega⟩ ?_
      refine mC_mono (fun r h5 hr => ?_) K
      obtain ⟨rfl, hS, tn4, K⟩ := hr
      show mW _ _ _ _ _ _ [.inr (some (mN h)), .inl (mI h 28 1), .inr (some 29)] _ _
      obtain ⟨o6, K⟩ := K
      refine mw_aastK (pc' := 38) dX6_add_37 rfl (t := 1) (by decide) (skT_29 hS) (skL_29 hS) o6 (tn4) hS (fun h7 eh7 hS => ?_)
      replace K := K h7 eh7
      have tn4 : mT h7 (mN h) = 6 := by rw [eh7]; exact tn4
      refine mw_aload_n (pc' := 39) dX6_add_38 rfl rfl ?_
      refine mw_getR (pc' := 42) dX6_add_39 rfl flX6_11 rfl (skT_28 hS) ?_
      rw [skR_28_0 hS]
      refine mw_aload_n (pc' := 43) dX6_add_42 rfl rfl ?_
      refine mw_getI (pc' := 46) dX6_add_43 rfl flX6_41 rfl (skT_28 hS) ?_
      obtain ⟨o8, K⟩ := K
      refine mw_aaldL (pc' := 47) dX6_add_46 rfl (t := 1) (by decide) (skT_29 hS) (skL_29 hS) o8 ?_
      refine mw_astore (pc' := 49) dX6_add_47 rfl (by decide) ?_
      show mW _ _ _ _ _ [some (.inr (some 28)), some (.inl v1), some (.inl v2), some (.inl v3), some (.inl v4), some (.inl v5), some (.inr (mR h7 29 (mI h7 28 1).toNatClampNeg))] _ _ _
      refine mw_aload (pc' := 51) dX6_add_49 rfl rfl ?_
      refine mw_iload_n (pc' := 52) dX6_add_51 rfl rfl ?_
      obtain ⟨y9, ey9, ty9, K⟩ := K
      rw [ey9]
      refine mw_putIK (pc' := 55) dX6_add_52 rfl flX6_45 rfl (Or.inl rfl) ⟨rfl, rfl⟩ (ty9) hS (fun h10 eh10 hS => ?_)
      replace K := K h10 eh10
      have tn4 : mT h10 (mN h) = 6 := by rw [eh10]; exact tn4
      have ty9 : mT h10 y9 = 6 := by rw [eh10]; exact ty9
      refine mw_aload (pc' := 57) dX6_add_55 rfl rfl ?_
      refine mw_iload_n (pc' := 58) dX6_add_57 rfl rfl ?_
      refine mw_putIK (pc' := 61) dX6_add_58 rfl flX6_48 rfl (Or.inl rfl) ⟨rfl, rfl⟩ (ty9) hS (fun h11 eh11 hS => ?_)
      replace K := K h11 eh11
      have tn4 : mT h11 (mN h) = 6 := by rw [eh11]; exact tn4
      have ty9 : mT h11 y9 = 6 := by rw [eh11]; exact ty9
      refine mw_aload (pc' := 63) dX6_add_61 rfl rfl ?_
      refine mw_iload_n (pc' := 64) dX6_add_63 rfl rfl ?_
      refine mw_putIK (pc' := 67) dX6_add_64 rfl flX6_51 rfl (Or.inl rfl) ⟨rfl, rfl⟩ (ty9) hS (fun h12 eh12 hS => ?_)
      replace K := K h12 eh12
      have tn4 : mT h12 (mN h) = 6 := by rw [eh12]; exact tn4
      have ty9 : mT h12 y9 = 6 := by rw [eh12]; exact ty9
      refine mw_aload (pc' := 69) dX6_add_67 rfl rfl ?_
      refine mw_iload (pc' := 71) dX6_add_69 rfl rfl ?_
      refine mw_putIK (pc' := 74) dX6_add_71 rfl flX6_54 rfl (Or.inl rfl) ⟨rfl, rfl⟩ (ty9) hS (fun h13 eh13 hS => ?_)
      replace K := K h13 eh13
      have tn4 : mT h13 (mN h) = 6 := by rw [eh13]; exact tn4
      have ty9 : mT h13 y9 = 6 := by rw [eh13]; exact ty9
      refine mw_aload (pc' := 76) dX6_add_74 rfl rfl ?_
      refine mw_iload (pc' := 78) dX6_add_76 rfl rfl ?_
      refine mw_putIK (pc' := 81) dX6_add_78 rfl flX6_57 rfl (Or.inl rfl) ⟨rfl, rfl⟩ (ty9) hS (fun h14 eh14 hS => ?_)
      replace K := K h14 eh14
      have tn4 : mT h14 (mN h) = 6 := by rw [eh14]; exact tn4
      have ty9 : mT h14 y9 = 6 := by rw [eh14]; exact ty9
      refine mw_aload (pc' := 83) dX6_add_81 rfl rfl ?_
      refine mw_iconst (pc' := 84) (v := 0) dX6_add_83 rfl (by decide) ?_
      refine mw_putIK (pc' := 87) dX6_add_84 rfl flX6_60 rfl (Or.inl rfl) ⟨rfl, rfl⟩ (ty9) hS (fun h15 eh15 hS => ?_)
      replace K := K h15 eh15
      have tn4 : mT h15 (mN h) = 6 := by rw [eh15]; exact tn4
      have ty9 : mT h15 y9 = 6 := by rw [eh15]; exact ty9
      refine mw_aload_n (pc' := 88) dX6_add_87 rfl rfl ?_
      refine mw_dup (pc' := 89) dX6_add_88 rfl ?_
      refine mw_getI (pc' := 92) dX6_add_89 rfl flX6_41 rfl (skT_28 hS) ?_
      refine mw_iconst (pc' := 93) (v := 1) dX6_add_92 rfl (by decide) ?_
      refine mw_iadd (pc' := 94) dX6_add_93 rfl ?_
      refine mw_putIK (pc' := 97) dX6_add_94 rfl flX6_41 rfl (Or.inl rfl) ⟨rfl, rfl⟩ (skT_28 hS) hS (fun h16 eh16 hS => ?_)
      replace K := K h16 eh16
      have tn4 : mT h16 (mN h) = 6 := by rw [eh16]; exact tn4
      have ty9 : mT h16 y9 = 6 := by rw [eh16]; exact ty9
      exact mw_ret dX6_add_97 rfl K
  · replace K := K.2 c27
    exact mw_ret dX6_add_9 rfl K

set_option maxRecDepth 100000 in
set_option maxHeartbeats 4000000 in
theorem qX6_last {G : mG} {d : Nat} {b : Nat × Nat} {h : mH} {Q : Option mV → mH → Prop}  (hS : mSk h)
    (K : (((mI h 28 1) ≤ 0 → Q (some (.inr none)) h) ∧ (¬ ((mI h 28 1) ≤ 0) → vp_in ((mI h 28 1) - 1) 12 ∧ Q (some (.inr (mR h 29 ((mI h 28 1) - 1).toNatClampNeg))) h))) : mC G kX6_last d b [.inr (some 28)] h Q := by
  refine mC_in rfl (Nat.le_of_ble_eq_true rfl) ?_
  show mW _ _ _ _ _ [some (.inr (some 28))] _ _ _
  refine mw_aload_n (pc' := 1) dX6_last_0 rfl rfl ?_
  refine mw_getI (pc' := 4) dX6_last_1 rfl flX6_41 rfl (skT_28 hS) ?_
  refine mw_if_le (pc' := 7) (tgt := 21) dX6_last_4 rfl (by decide) (fun c2 => ?_) (fun c2 => ?_)
  · replace K := K.1 c2
    refine mw_null (pc' := 22) dX6_last_21 rfl ?_
    exact mw_aret dX6_last_22 rfl (by first | exact Or.inl ⟨_, rfl⟩ | exact Or.inr ⟨_, rfl⟩) K
  · replace K := K.2 c2
    refine mw_aload_n (pc' := 8) dX6_last_7 rfl rfl ?_
    refine mw_getR (pc' := 11) dX6_last_8 rfl flX6_11 rfl (skT_28 hS) ?_
    rw [skR_28_0 hS]
    refine mw_aload_n (pc' := 12) dX6_last_11 rfl rfl ?_
    refine mw_getI (pc' := 15) dX6_last_12 rfl flX6_41 rfl (skT_28 hS) ?_
    refine mw_iconst (pc' := 16) (v := 1) dX6_last_15 rfl (by decide) ?_
    refine mw_isub (pc' := 17) dX6_last_16 rfl ?_
    obtain ⟨o1, K⟩ := K
    refine mw_aaldL (pc' := 18) dX6_last_17 rfl (t := 1) (by decide) (skT_29 hS) (skL_29 hS) o1 ?_
    refine mw_goto (tgt := 22) dX6_last_18 (by decide) ?_
    exact mw_aret dX6_last_22 rfl (by first | exact Or.inl ⟨_, rfl⟩ | exact Or.inr ⟨_, rfl⟩) K

set_option maxRecDepth 100000 in
set_option maxHeartbeats 4000000 in
theorem qX6_forgetHeard {G : mG} {d : Nat} {b : Nat × Nat} {h : mH} {Q : Option mV → mH → Prop}  (hS : mSk h)
    (K : mW G kX6_forgetHeard (d + 2) b 2 [some (.inr (some 28)), some (.inl 0), none] [] h Q) : mC G kX6_forgetHeard (d + 2) b [.inr (some 28)] h Q := by
  refine mC_in rfl (Nat.le_of_ble_eq_true rfl) ?_
  show mW _ _ _ _ _ [some (.inr (some 28)), none, none] _ _ _
  refine mw_iconst (pc' := 1) (v := 0) dX6_forgetHeard_0 rfl (by decide) ?_
  refine mw_istore_n (pc' := 2) dX6_forgetHeard_1 rfl (by decide) ?_
  show mW _ _ _ _ _ [some (.inr (some 28)), some (.inl 0), none] _ _ _
  exact K

set_option maxRecDepth 100000 in
set_option maxHeartbeats 4000000 in
theorem qX6_forgetHeard_2 {G : mG} {d : Nat} {b : Nat × Nat} {h : mH} {Q : Option mV → mH → Prop} (v1 : Int32) (hS : mSk h)
    (K : (((mI h 28 1) ≤ v1 → Q none h) ∧ (¬ ((mI h 28 1) ≤ v1) → mW G kX6_forgetHeard (d + 2) b 12 [some (.inr (some 28)), some (.inl v1), some (.inl 0)] [] h Q))) : mW G kX6_forgetHeard (d + 2) b 2 [some (.inr (some 28)), some (.inl v1), none] [] h Q := by
  refine mw_iload_n (pc' := 3) dX6_forgetHeard_2 rfl rfl ?_
  refine mw_aload_n (pc' := 4) dX6_forgetHeard_3 rfl rfl ?_
  refine mw_getI (pc' := 7) dX6_forgetHeard_4 rfl flX6_41 rfl (skT_28 hS) ?_
  refine mw_icmp_ge (pc' := 10) (tgt := 68) dX6_forgetHeard_7 rfl (by decide) (fun c1 => ?_) (fun c1 => ?_)
  · replace K := K.1 c1
    exact mw_ret dX6_forgetHeard_68 rfl K
  · replace K := K.2 c1
    refine mw_iconst (pc' := 11) (v := 0) dX6_forgetHeard_10 rfl (by decide) ?_
    refine mw_istore_n (pc' := 12) dX6_forgetHeard_11 rfl (by decide) ?_
    show mW _ _ _ _ _ [some (.inr (some 28)), some (.inl v1), some (.inl 0)] _ _ _
    exact K

set_option maxRecDepth 100000 in
set_option maxHeartbeats 4000000 in
theorem qX6_forgetHeard_12 {G : mG} {d : Nat} {b : Nat × Nat} {h : mH} {Q : Option mV → mH → Prop} (v1 : Int32) (v2 : Int32) (hS : mSk h)
    (K : vp_in v1 12 ∧ ∃ y2, mR h 29 v1.toNatClampNeg = some y2 ∧ mT h y2 = 6 ∧ (((mI h y2 5) ≤ v2 → mW G kX6_forgetHeard (d + 2) b 2 [some (.inr (some 28)), some (.inl (v1 + 1)), none] [] h Q) ∧ (¬ ((mI h y2 5) ≤ v2) → vp_in v1 12 ∧ ∃ y4, mR h 29 v1.toNatClampNeg = some y4 ∧ mT h y4 = 6 ∧ vp_in v2 6 ∧ ∃ y6, mR h (y4 + 1) v2.toNatClampNeg = some y6 ∧ mT h y6 = 8 ∧ ((¬ (mI h y6 0) = 0 → mW G kX6_forgetHeard (d + 2) b 12 [some (.inr (some 28)), some (.inl v1), some (.inl (v2 + 1))] [] h Q) ∧ ((mI h y6 0) = 0 → vp_in v1 12 ∧ ∃ y8, mR h 29 v1.toNatClampNeg = some y8 ∧ mT h y8 = 6 ∧ vp_in v2 6 ∧ ∃ y10, mR h (y8 + 1) v2.toNatClampNeg = some y10 ∧ mT h y10 = 8 ∧ mC G kX7_forget (d + 1) (0, 0) [.inr (some y10)] h (fun r h11 => r = none ∧ mSk h11 ∧ mT h11 y2 = 6 ∧ mT h11 y4 = 6 ∧ mT h11 y6 = 8 ∧ mT h11 y8 = 6 ∧ mT h11 y10 = 8 ∧ mW G kX6_forgetHeard (d + 2) b 12 [some (.inr (some 28)), some (.inl v1), some (.inl (v2 + 1))] [] h11 Q)))))) : mW G kX6_forgetHeard (d + 2) b 12 [some (.inr (some 28)), some (.inl v1), some (.inl v2)] [] h Q := by
  refine mw_iload_n (pc' := 13) dX6_forgetHeard_12 rfl rfl ?_
  refine mw_aload_n (pc' := 14) dX6_forgetHeard_13 rfl rfl ?_
  refine mw_getR (pc' := 17) dX6_forgetHeard_14 rfl flX6_11 rfl (skT_28 hS) ?_
  rw [skR_28_0 hS]
  refine mw_iload_n (pc' := 18) dX6_forgetHeard_17 rfl rfl ?_
  obtain ⟨o1, K⟩ := K
  refine mw_aaldL (pc' := 19) dX6_forgetHeard_18 rfl (t := 1) (by decide) (skT_29 hS) (skL_29 hS) o1 ?_
  obtain ⟨y2, ey2, ty2, K⟩ := K
  rw [ey2]
  refine mw_getI (pc' := 22) dX6_forgetHeard_19 rfl flX6_60 rfl (ty2) ?_
  refine mw_icmp_ge (pc' := 25) (tgt := 62) dX6_forgetHeard_22 rfl (by decide) (fun c13 => ?_) (fun c13 => ?_)
  · replace K := K.1 c13
    refine mw_iinc (pc' := 65) (v := v1 + 1) dX6_forgetHeard_62 rfl (by decide) rfl rfl ?_
    show mW _ _ _ _ _ [some (.inr (some 28)), some (.inl (v1 + 1)), some (.inl v2)] _ _ _
    refine mw_goto (tgt := 2) dX6_forgetHeard_65 (by decide) ?_
    refine mw_weak (ls' := [some (.inr (some 28)), some (.inl (v1 + 1)), none]) ?_ ?_
    · intro i v hv; match i, hv with
      | 0, hv => exact hv
      | 1, hv => exact hv
      | 2, hv => cases hv
      | n + 3, hv => cases hv
    exact K
  · replace K := K.2 c13
    refine mw_aload_n (pc' := 26) dX6_forgetHeard_25 rfl rfl ?_
    refine mw_getR (pc' := 29) dX6_forgetHeard_26 rfl flX6_11 rfl (skT_28 hS) ?_
    rw [skR_28_0 hS]
    refine mw_iload_n (pc' := 30) dX6_forgetHeard_29 rfl rfl ?_
    obtain ⟨o3, K⟩ := K
    refine mw_aaldL (pc' := 31) dX6_forgetHeard_30 rfl (t := 1) (by decide) (skT_29 hS) (skL_29 hS) o3 ?_
    obtain ⟨y4, ey4, ty4, K⟩ := K
    rw [ey4]
    refine mw_getR (pc' := 34) dX6_forgetHeard_31 rfl flX6_63 rfl (ty4) ?_
    rw [skBR_5_6 hS ty4]
    refine mw_iload_n (pc' := 35) dX6_forgetHeard_34 rfl rfl ?_
    obtain ⟨o5, K⟩ := K
    refine mw_aaldL (pc' := 36) dX6_forgetHeard_35 rfl (t := 2) (by decide) (skBT_5_1 hS ty4) (skBL_5_1 hS ty4) o5 ?_
    obtain ⟨y6, ey6, ty6, K⟩ := K
    rw [ey6]
    refine mw_getI (pc' := 39) dX6_forgetHeard_36 rfl flX6_67 rfl (ty6) ?_
    refine mw_if_ne (pc' := 42) (tgt := 56) dX6_forgetHeard_39 rfl (by decide) (fun c12 => ?_) (fun c12 => ?_)
    · replace K := K.1 c12
      refine mw_iinc (pc' := 59) (v := v2 + 1) dX6_forgetHeard_56 rfl (by decide) rfl rfl ?_
      show mW _ _ _ _ _ [some (.inr (some 28)), some (.inl v1), some (.inl (v2 + 1))] _ _ _
      refine mw_goto (tgt := 12) dX6_forgetHeard_59 (by decide) ?_
      exact K
    · replace K := K.2 c12
      refine mw_aload_n (pc' := 43) dX6_forgetHeard_42 rfl rfl ?_
      refine mw_getR (pc' := 46) dX6_forgetHeard_43 rfl flX6_11 rfl (skT_28 hS) ?_
      rw [skR_28_0 hS]
      refine mw_iload_n (pc' := 47) dX6_forgetHeard_46 rfl rfl ?_
      obtain ⟨o7, K⟩ := K
      refine mw_aaldL (pc' := 48) dX6_forgetHeard_47 rfl (t := 1) (by decide) (skT_29 hS) (skL_29 hS) o7 ?_
      obtain ⟨y8, ey8, ty8, K⟩ := K
      rw [ey8]
      refine mw_getR (pc' := 51) dX6_forgetHeard_48 rfl flX6_63 rfl (ty8) ?_
      rw [skBR_5_6 hS ty8]
      refine mw_iload_n (pc' := 52) dX6_forgetHeard_51 rfl rfl ?_
      obtain ⟨o9, K⟩ := K
      refine mw_aaldL (pc' := 53) dX6_forgetHeard_52 rfl (t := 2) (by decide) (skBT_5_1 hS ty8) (skBL_5_1 hS ty8) o9 ?_
      obtain ⟨y10, ey10, ty10, K⟩ := K
      rw [ey10]
      refine mw_callV (pc' := 56) (b' := (0, 0)) (b1 := b) (av := []) (rest := []) dX6_forgetHeard_53 rfl lkX6_73 rfl rfl (Nat.le_of_ble_eq_true rfl) ⟨Nat.le_of_eq (Nat.zero_add _), Nat.le_of_eq (Nat.zero_add _)⟩ (ty10) ?_
      refine mC_mono (fun r h11 hr => ?_) K
      obtain ⟨rfl, hS, ty2, ty4, ty6, ty8, ty10, K⟩ := hr
      show mW _ _ _ _ _ _ [] _ _
      refine mw_iinc (pc' := 59) (v := v2 + 1) dX6_forgetHeard_56 rfl (by decide) rfl rfl ?_
      show mW _ _ _ _ _ [some (.inr (some 28)), some (.inl v1), some (.inl (v2 + 1))] _ _ _
      refine mw_goto (tgt := 12) dX6_forgetHeard_59 (by decide) ?_
      exact K

set_option maxRecDepth 100000 in
set_option maxHeartbeats 4000000 in
theorem qX6_follow {G : mG} {d : Nat} {b : Nat × Nat} {h : mH} {Q : Option mV → mH → Prop} (a1 : Nat) (ta1 : mT h a1 = 2) (hS : mSk h)
    (K : mW G kX6_follow (d + 5) b 11 [some (.inr (some 28)), some (.inr (some a1)), some (.inl (f_max 0 ((mI h a1 10) - 1))), none, none] [] h Q) : mC G kX6_follow (d + 5) b [.inr (some 28), .inr (some a1)] h Q := by
  refine mC_in rfl (Nat.le_of_ble_eq_true rfl) ?_
  show mW _ _ _ _ _ [some (.inr (some 28)), some (.inr (some a1)), none, none, none] _ _ _
  refine mw_iconst (pc' := 1) (v := 0) dX6_follow_0 rfl (by decide) ?_
  refine mw_aload_n (pc' := 2) dX6_follow_1 rfl rfl ?_
  refine mw_getI (pc' := 5) dX6_follow_2 rfl flX6_76 rfl (ta1) ?_
  refine mw_iconst (pc' := 6) (v := 1) dX6_follow_5 rfl (by decide) ?_
  refine mw_isub (pc' := 7) dX6_follow_6 rfl ?_
  refine mw_mmax (pc' := 10) dX6_follow_7 rfl lkX6_81 (Nat.le_of_ble_eq_true rfl) ?_
  refine mw_istore_n (pc' := 11) dX6_follow_10 rfl (by decide) ?_
  show mW _ _ _ _ _ [some (.inr (some 28)), some (.inr (some a1)), some (.inl (f_max 0 ((mI h a1 10) - 1))), none, none] _ _ _
  exact K

set_option maxRecDepth 100000 in
set_option maxHeartbeats 4000000 in
theorem qX6_follow_11 {G : mG} {d : Nat} {b : Nat × Nat} {h : mH} {Q : Option mV → mH → Prop} (a1 : Nat) (v2 : Int32) (ta1 : mT h a1 = 2) (hS : mSk h)
    (K : (((mI h 28 1) ≤ v2 → Q none h) ∧ (¬ ((mI h 28 1) ≤ v2) → vp_in v2 12 ∧ ((v2 < (mI h a1 10) → mW G kX6_follow (d + 5) b 59 [some (.inr (some 28)), some (.inr (some a1)), some (.inl v2), some (.inr (mR h 29 v2.toNatClampNeg)), some (.inl (mI h a1 11))] [] h Q) ∧ (¬ (v2 < (mI h a1 10)) → mC G kX6_begin (d + 4) (0, 0) [.inr (some 28), .inr (some a1), .inl v2, .inr (mR h 29 v2.toNatClampNeg)] h (fun r h2 => r = none ∧ mSk h2 ∧ mT h2 a1 = 2 ∧ ∀ h3, h3 = mSI h2 a1 10 (v2 + 1) → ∀ h4, h4 = mSI h3 a1 11 0 → mW G kX6_follow (d + 5) b 59 [some (.inr (some 28)), some (.inr (some a1)), some (.inl v2), some (.inr (mR h 29 v2.toNatClampNeg)), some (.inl (mI h4 a1 11))] [] h4 Q)))))) : mW G kX6_follow (d + 5) b 11 [some (.inr (some 28)), some (.inr (some a1)), some (.inl v2), none, none] [] h Q := by
  refine mw_iload_n (pc' := 12) dX6_follow_11 rfl rfl ?_
  refine mw_aload_n (pc' := 13) dX6_follow_12 rfl rfl ?_
  refine mw_getI (pc' := 16) dX6_follow_13 rfl flX6_41 rfl (skT_28 hS) ?_
  refine mw_icmp_ge (pc' := 19) (tgt := 106) dX6_follow_16 rfl (by decide) (fun c6 => ?_) (fun c6 => ?_)
  · replace K := K.1 c6
    exact mw_ret dX6_follow_106 rfl K
  · replace K := K.2 c6
    refine mw_aload_n (pc' := 20) dX6_follow_19 rfl rfl ?_
    refine mw_getR (pc' := 23) dX6_follow_20 rfl flX6_11 rfl (skT_28 hS) ?_
    rw [skR_28_0 hS]
    refine mw_iload_n (pc' := 24) dX6_follow_23 rfl rfl ?_
    obtain ⟨o1, K⟩ := K
    refine mw_aaldL (pc' := 25) dX6_follow_24 rfl (t := 1) (by decide) (skT_29 hS) (skL_29 hS) o1 ?_
    refine mw_astore_n (pc' := 26) dX6_follow_25 rfl (by decide) ?_
    show mW _ _ _ _ _ [some (.inr (some 28)), some (.inr (some a1)), some (.inl v2), some (.inr (mR h 29 v2.toNatClampNeg)), none] _ _ _
    refine mw_iload_n (pc' := 27) dX6_follow_26 rfl rfl ?_
    refine mw_aload_n (pc' := 28) dX6_follow_27 rfl rfl ?_
    refine mw_getI (pc' := 31) dX6_follow_28 rfl flX6_76 rfl (ta1) ?_
    refine mw_icmp_lt (pc' := 34) (tgt := 53) dX6_follow_31 rfl (by decide) (fun c5 => ?_) (fun c5 => ?_)
    · replace K := K.1 c5
      refine mw_aload_n (pc' := 54) dX6_follow_53 rfl rfl ?_
      refine mw_getI (pc' := 57) dX6_follow_54 rfl flX6_91 rfl (ta1) ?_
      refine mw_istore (pc' := 59) dX6_follow_57 rfl (by decide) ?_
      show mW _ _ _ _ _ [some (.inr (some 28)), some (.inr (some a1)), some (.inl v2), some (.inr (mR h 29 v2.toNatClampNeg)), some (.inl (mI h a1 11))] _ _ _
      exact K
    · replace K := K.2 c5
      refine mw_aload_n (pc' := 35) dX6_follow_34 rfl rfl ?_
      refine mw_aload_n (pc' := 36) dX6_follow_35 rfl rfl ?_
      refine mw_iload_n (pc' := 37) dX6_follow_36 rfl rfl ?_
      refine mw_aload_n (pc' := 38) dX6_follow_37 rfl rfl ?_
      refine mw_callV (pc' := 41) (b' := (0, 0)) (b1 := b) (av := [.inr (some a1), .inl v2, .inr (mR h 29 v2.toNatClampNeg)]) (rest := []) dX6_follow_38 rfl lkX6_87 rfl rfl (Nat.le_of_ble_eq_true rfl) ⟨Nat.le_of_eq (Nat.zero_add _), Nat.le_of_eq (Nat.zero_add _)⟩ (skT_28 hS) ?_
      refine mC_mono (fun r h2 hr => ?_) K
      obtain ⟨rfl, hS, ta1, K⟩ := hr
      show mW _ _ _ _ _ _ [] _ _
      refine mw_aload_n (pc' := 42) dX6_follow_41 rfl rfl ?_
      refine mw_iload_n (pc' := 43) dX6_follow_42 rfl rfl ?_
      refine mw_iconst (pc' := 44) (v := 1) dX6_follow_43 rfl (by decide) ?_
      refine mw_iadd (pc' := 45) dX6_follow_44 rfl ?_
      refine mw_putIK (pc' := 48) dX6_follow_45 rfl flX6_76 rfl (Or.inl rfl) ⟨rfl, rfl⟩ (ta1) hS (fun h3 eh3 hS => ?_)
      replace K := K h3 eh3
      have ta1 : mT h3 a1 = 2 := by rw [eh3]; exact ta1
      refine mw_aload_n (pc' := 49) dX6_follow_48 rfl rfl ?_
      refine mw_iconst (pc' := 50) (v := 0) dX6_follow_49 rfl (by decide) ?_
      refine mw_putIK (pc' := 53) dX6_follow_50 rfl flX6_91 rfl (Or.inl rfl) ⟨rfl, rfl⟩ (ta1) hS (fun h4 eh4 hS => ?_)
      replace K := K h4 eh4
      have ta1 : mT h4 a1 = 2 := by rw [eh4]; exact ta1
      refine mw_aload_n (pc' := 54) dX6_follow_53 rfl rfl ?_
      refine mw_getI (pc' := 57) dX6_follow_54 rfl flX6_91 rfl (ta1) ?_
      refine mw_istore (pc' := 59) dX6_follow_57 rfl (by decide) ?_
      show mW _ _ _ _ _ [some (.inr (some 28)), some (.inr (some a1)), some (.inl v2), some (.inr (mR h 29 v2.toNatClampNeg)), some (.inl (mI h4 a1 11))] _ _ _
      exact K

set_option maxRecDepth 100000 in
set_option maxHeartbeats 4000000 in
theorem qX6_follow_59 {G : mG} {d : Nat} {b : Nat × Nat} {h : mH} {Q : Option mV → mH → Prop} (a1 : Nat) (v2 : Int32) (r3 : Option Nat) (v4 : Int32) (ta1 : mT h a1 = 2) (hS : mSk h)
    (K : ∃ y1, r3 = some y1 ∧ mT h y1 = 6 ∧ (((mI h y1 5) ≤ v4 → ∀ h2, h2 = mSI h a1 11 (mI h y1 5) → mW G kX6_follow (d + 5) b 11 [some (.inr (some 28)), some (.inr (some a1)), some (.inl (v2 + 1)), none, none] [] h2 Q) ∧ (¬ ((mI h y1 5) ≤ v4) → mC G kX1_rowsAt (d + 4) (0, 0) [.inr (some a1), .inl v2, .inl 0] h (fun r h3 => ∃ x4, r = some (.inl x4) ∧ mSk h3 ∧ mT h3 a1 = 2 ∧ mT h3 y1 = 6 ∧ mC G kX6_sift (d + 4) (0, 0) [.inr (some 28), .inr (some a1), .inr (some y1), .inl v4, .inr (some (a1 + 5)), .inl x4] h3 (fun r h5 => r = none ∧ mSk h5 ∧ mT h5 a1 = 2 ∧ mT h5 y1 = 6 ∧ mW G kX6_follow (d + 5) b 59 [some (.inr (some 28)), some (.inr (some a1)), some (.inl v2), some (.inr (some y1)), some (.inl (v4 + 1))] [] h5 Q))))) : mW G kX6_follow (d + 5) b 59 [some (.inr (some 28)), some (.inr (some a1)), some (.inl v2), some (.inr r3), some (.inl v4)] [] h Q := by
  refine mw_iload (pc' := 61) dX6_follow_59 rfl rfl ?_
  refine mw_aload_n (pc' := 62) dX6_follow_61 rfl rfl ?_
  obtain ⟨y1, ey1, ty1, K⟩ := K
  rw [ey1]
  refine mw_getI (pc' := 65) dX6_follow_62 rfl flX6_60 rfl (ty1) ?_
  refine mw_icmp_ge (pc' := 68) (tgt := 92) dX6_follow_65 rfl (by decide) (fun c6 => ?_) (fun c6 => ?_)
  · replace K := K.1 c6
    refine mw_aload_n (pc' := 93) dX6_follow_92 rfl rfl ?_
    refine mw_aload_n (pc' := 94) dX6_follow_93 rfl rfl ?_
    refine mw_getI (pc' := 97) dX6_follow_94 rfl flX6_60 rfl (ty1) ?_
    refine mw_putIK (pc' := 100) dX6_follow_97 rfl flX6_91 rfl (Or.inl rfl) ⟨rfl, rfl⟩ (ta1) hS (fun h2 eh2 hS => ?_)
    replace K := K h2 eh2
    have ta1 : mT h2 a1 = 2 := by rw [eh2]; exact ta1
    have ty1 : mT h2 y1 = 6 := by rw [eh2]; exact ty1
    refine mw_iinc (pc' := 103) (v := v2 + 1) dX6_follow_100 rfl (by decide) rfl rfl ?_
    show mW _ _ _ _ _ [some (.inr (some 28)), some (.inr (some a1)), some (.inl (v2 + 1)), some (.inr (some y1)), some (.inl v4)] _ _ _
    refine mw_goto (tgt := 11) dX6_follow_103 (by decide) ?_
    refine mw_weak (ls' := [some (.inr (some 28)), some (.inr (some a1)), some (.inl (v2 + 1)), none, none]) ?_ ?_
    · intro i v hv; match i, hv with
      | 0, hv => exact hv
      | 1, hv => exact hv
      | 2, hv => exact hv
      | 3, hv => cases hv
      | 4, hv => cases hv
      | n + 5, hv => cases hv
    exact K
  · replace K := K.2 c6
    refine mw_aload_n (pc' := 69) dX6_follow_68 rfl rfl ?_
    refine mw_aload_n (pc' := 70) dX6_follow_69 rfl rfl ?_
    refine mw_aload_n (pc' := 71) dX6_follow_70 rfl rfl ?_
    refine mw_iload (pc' := 73) dX6_follow_71 rfl rfl ?_
    refine mw_aload_n (pc' := 74) dX6_follow_73 rfl rfl ?_
    refine mw_getR (pc' := 77) dX6_follow_74 rfl flX6_94 rfl (ta1) ?_
    rw [skBR_1_9 hS ta1]
    refine mw_aload_n (pc' := 78) dX6_follow_77 rfl rfl ?_
    refine mw_iload_n (pc' := 79) dX6_follow_78 rfl rfl ?_
    refine mw_iconst (pc' := 80) (v := 0) dX6_follow_79 rfl (by decide) ?_
    refine mw_callV (pc' := 83) (b' := (0, 0)) (b1 := b) (av := [.inl v2, .inl 0]) (rest := [.inr (some (a1 + 5)), .inl v4, .inr (some y1), .inr (some a1), .inr (some 28)]) dX6_follow_80 rfl lkX6_97 rfl rfl (Nat.le_of_ble_eq_true rfl) ⟨Nat.le_of_eq (Nat.zero_add _), Nat.le_of_eq (Nat.zero_add _)⟩ (ta1) ?_
    refine mC_mono (fun r h3 hr => ?_) K
    obtain ⟨x4, rfl, hS, ta1, ty1, K⟩ := hr
    show mW _ _ _ _ _ _ [.inl x4, .inr (some (a1 + 5)), .inl v4, .inr (some y1), .inr (some a1), .inr (some 28)] _ _
    refine mw_callV (pc' := 86) (b' := (0, 0)) (b1 := b) (av := [.inr (some a1), .inr (some y1), .inl v4, .inr (some (a1 + 5)), .inl x4]) (rest := []) dX6_follow_83 rfl lkX6_100 rfl rfl (Nat.le_of_ble_eq_true rfl) ⟨Nat.le_of_eq (Nat.zero_add _), Nat.le_of_eq (Nat.zero_add _)⟩ (skT_28 hS) ?_
    refine mC_mono (fun r h5 hr => ?_) K
    obtain ⟨rfl, hS, ta1, ty1, K⟩ := hr
    show mW _ _ _ _ _ _ [] _ _
    refine mw_iinc (pc' := 89) (v := v4 + 1) dX6_follow_86 rfl (by decide) rfl rfl ?_
    show mW _ _ _ _ _ [some (.inr (some 28)), some (.inr (some a1)), some (.inl v2), some (.inr (some y1)), some (.inl (v4 + 1))] _ _ _
    refine mw_goto (tgt := 59) dX6_follow_89 (by decide) ?_
    exact K

set_option maxRecDepth 100000 in
set_option maxHeartbeats 4000000 in
theorem qX6_begin {G : mG} {d : Nat} {b : Nat × Nat} {h : mH} {Q : Option mV → mH → Prop} (a1 : Nat) (v2 : Int32) (a3 : Nat) (ta1 : mT h a1 = 2) (ta3 : mT h a3 = 6) (hS : mSk h)
    (K : mW G kX6_begin (d + 2) b 3 [some (.inr (some 28)), some (.inr (some a1)), some (.inl v2), some (.inr (some a3)), some (.inl 0), none, none, none, none] [] h Q) : mC G kX6_begin (d + 2) b [.inr (some 28), .inr (some a1), .inl v2, .inr (some a3)] h Q := by
  refine mC_in rfl (Nat.le_of_ble_eq_true rfl) ?_
  show mW _ _ _ _ _ [some (.inr (some 28)), some (.inr (some a1)), some (.inl v2), some (.inr (some a3)), none, none, none, none, none] _ _ _
  refine mw_iconst (pc' := 1) (v := 0) dX6_begin_0 rfl (by decide) ?_
  refine mw_istore (pc' := 3) dX6_begin_1 rfl (by decide) ?_
  show mW _ _ _ _ _ [some (.inr (some 28)), some (.inr (some a1)), some (.inl v2), some (.inr (some a3)), some (.inl 0), none, none, none, none] _ _ _
  exact K

set_option maxRecDepth 100000 in
set_option maxHeartbeats 4000000 in
theorem qX6_begin_3 {G : mG} {d : Nat} {b : Nat × Nat} {h : mH} {Q : Option mV → mH → Prop} (a1 : Nat) (v2 : Int32) (a3 : Nat) (v4 : Int32) (ta1 : mT h a1 = 2) (ta3 : mT h a3 = 6) (hS : mSk h)
    (K : (((mI h 28 2) < v4 → Q none h) ∧ (¬ ((mI h 28 2) < v4) → mC G kX1_rowsAt (d + 1) (0, 0) [.inr (some a1), .inl v2, .inl v4] h (fun r h1 => ∃ x2, r = some (.inl x2) ∧ mSk h1 ∧ mT h1 a1 = 2 ∧ mT h1 a3 = 6 ∧ ((v2 ≤ 0 → mW G kX6_begin (d + 2) b 49 [some (.inr (some 28)), some (.inr (some a1)), some (.inl v2), some (.inr (some a3)), some (.inl v4), some (.inl x2), some (.inl 0), none, none] [] h1 Q) ∧ (¬ (v2 ≤ 0) → mC G kX1_rowsAt (d + 1) (0, 0) [.inr (some a1), .inl (v2 - 1), .inl v4] h1 (fun r h3 => ∃ x4, r = some (.inl x4) ∧ mSk h3 ∧ mT h3 a1 = 2 ∧ mT h3 a3 = 6 ∧ mC G kX6_drift (d + 1) (0, 0) [.inr (some 28), .inr (some (a1 + 5)), .inl x4, .inl x2, .inr (some a3), .inl 1] h3 (fun r h5 => r = none ∧ mSk h5 ∧ mT h5 a1 = 2 ∧ mT h5 a3 = 6 ∧ mW G kX6_begin (d + 2) b 49 [some (.inr (some 28)), some (.inr (some a1)), some (.inl v2), some (.inr (some a3)), some (.inl v4), some (.inl x2), some (.inl 0), none, none] [] h5 Q)))))))) : mW G kX6_begin (d + 2) b 3 [some (.inr (some 28)), some (.inr (some a1)), some (.inl v2), some (.inr (some a3)), some (.inl v4), none, none, none, none] [] h Q := by
  refine mw_iload (pc' := 5) dX6_begin_3 rfl rfl ?_
  refine mw_aload_n (pc' := 6) dX6_begin_5 rfl rfl ?_
  refine mw_getI (pc' := 9) dX6_begin_6 rfl flX6_104 rfl (skT_28 hS) ?_
  refine mw_icmp_gt (pc' := 12) (tgt := 139) dX6_begin_9 rfl (by decide) (fun c7 => ?_) (fun c7 => ?_)
  · replace K := K.1 c7
    exact mw_ret dX6_begin_139 rfl K
  · replace K := K.2 c7
    refine mw_aload_n (pc' := 13) dX6_begin_12 rfl rfl ?_
    refine mw_iload_n (pc' := 14) dX6_begin_13 rfl rfl ?_
    refine mw_iload (pc' := 16) dX6_begin_14 rfl rfl ?_
    refine mw_callV (pc' := 19) (b' := (0, 0)) (b1 := b) (av := [.inl v2, .inl v4]) (rest := []) dX6_begin_16 rfl lkX6_97 rfl rfl (Nat.le_of_ble_eq_true rfl) ⟨Nat.le_of_eq (Nat.zero_add _), Nat.le_of_eq (Nat.zero_add _)⟩ (ta1) ?_
    refine mC_mono (fun r h1 hr => ?_) K
    obtain ⟨x2, rfl, hS, ta1, ta3, K⟩ := hr
    show mW _ _ _ _ _ _ [.inl x2] _ _
    refine mw_istore (pc' := 21) dX6_begin_19 rfl (by decide) ?_
    show mW _ _ _ _ _ [some (.inr (some 28)), some (.inr (some a1)), some (.inl v2), some (.inr (some a3)), some (.inl v4), some (.inl x2), none, none, none] _ _ _
    refine mw_iload_n (pc' := 22) dX6_begin_21 rfl rfl ?_
    refine mw_if_le (pc' := 25) (tgt := 46) dX6_begin_22 rfl (by decide) (fun c6 => ?_) (fun c6 => ?_)
    · replace K := K.1 c6
      refine mw_iconst (pc' := 47) (v := 0) dX6_begin_46 rfl (by decide) ?_
      refine mw_istore (pc' := 49) dX6_begin_47 rfl (by decide) ?_
      show mW _ _ _ _ _ [some (.inr (some 28)), some (.inr (some a1)), some (.inl v2), some (.inr (some a3)), some (.inl v4), some (.inl x2), some (.inl 0), none, none] _ _ _
      exact K
    · replace K := K.2 c6
      refine mw_aload_n (pc' := 26) dX6_begin_25 rfl rfl ?_
      refine mw_aload_n (pc' := 27) dX6_begin_26 rfl rfl ?_
      refine mw_getR (pc' := 30) dX6_begin_27 rfl flX6_94 rfl (ta1) ?_
      rw [skBR_1_9 hS ta1]
      refine mw_aload_n (pc' := 31) dX6_begin_30 rfl rfl ?_
      refine mw_iload_n (pc' := 32) dX6_begin_31 rfl rfl ?_
      refine mw_iconst (pc' := 33) (v := 1) dX6_begin_32 rfl (by decide) ?_
      refine mw_isub (pc' := 34) dX6_begin_33 rfl ?_
      refine mw_iload (pc' := 36) dX6_begin_34 rfl rfl ?_
      refine mw_callV (pc' := 39) (b' := (0, 0)) (b1 := b) (av := [.inl (v2 - 1), .inl v4]) (rest := [.inr (some (a1 + 5)), .inr (some 28)]) dX6_begin_36 rfl lkX6_97 rfl rfl (Nat.le_of_ble_eq_true rfl) ⟨Nat.le_of_eq (Nat.zero_add _), Nat.le_of_eq (Nat.zero_add _)⟩ (ta1) ?_
      refine mC_mono (fun r h3 hr => ?_) K
      obtain ⟨x4, rfl, hS, ta1, ta3, K⟩ := hr
      show mW _ _ _ _ _ _ [.inl x4, .inr (some (a1 + 5)), .inr (some 28)] _ _
      refine mw_iload (pc' := 41) dX6_begin_39 rfl rfl ?_
      refine mw_aload_n (pc' := 42) dX6_begin_41 rfl rfl ?_
      refine mw_iconst (pc' := 43) (v := 1) dX6_begin_42 rfl (by decide) ?_
      refine mw_callV (pc' := 46) (b' := (0, 0)) (b1 := b) (av := [.inr (some (a1 + 5)), .inl x4, .inl x2, .inr (some a3), .inl 1]) (rest := []) dX6_begin_43 rfl lkX6_107 rfl rfl (Nat.le_of_ble_eq_true rfl) ⟨Nat.le_of_eq (Nat.zero_add _), Nat.le_of_eq (Nat.zero_add _)⟩ (skT_28 hS) ?_
      refine mC_mono (fun r h5 hr => ?_) K
      obtain ⟨rfl, hS, ta1, ta3, K⟩ := hr
      show mW _ _ _ _ _ _ [] _ _
      refine mw_iconst (pc' := 47) (v := 0) dX6_begin_46 rfl (by decide) ?_
      refine mw_istore (pc' := 49) dX6_begin_47 rfl (by decide) ?_
      show mW _ _ _ _ _ [some (.inr (some 28)), some (.inr (some a1)), some (.inl v2), some (.inr (some a3)), some (.inl v4), some (.inl x2), some (.inl 0), none, none] _ _ _
      exact K

set_option maxRecDepth 100000 in
set_option maxHeartbeats 4000000 in
theorem qX6_begin_49 {G : mG} {d : Nat} {b : Nat × Nat} {h : mH} {Q : Option mV → mH → Prop} (a1 : Nat) (v2 : Int32) (a3 : Nat) (v4 : Int32) (v5 : Int32) (v6 : Int32) (ta1 : mT h a1 = 2) (ta3 : mT h a3 = 6) (hS : mSk h)
    (K : ((32 ≤ v6 → mW G kX6_begin (d + 2) b 3 [some (.inr (some 28)), some (.inr (some a1)), some (.inl v2), some (.inr (some a3)), some (.inl (v4 + 1)), none, none, none, none] [] h Q) ∧ (¬ (32 ≤ v6) → ((v6 < (mI h 28 3) → ((v2 ≤ 0 → vp_in v6 32 ∧ vp_in (v5 + v6) 1536 ∧ ∀ h3, h3 = mSI h (a1 + 5) (v5 + v6).toNatClampNeg (0 &&& (m_not (mI h (a1 + 1) v6.toNatClampNeg))) → mW G kX6_begin (d + 2) b 49 [some (.inr (some 28)), some (.inr (some a1)), some (.inl v2), some (.inr (some a3)), some (.inl v4), some (.inl v5), some (.inl (v6 + 1)), none, none] [] h3 Q) ∧ (¬ (v2 ≤ 0) → vp_in (v5 + v6) 1536 ∧ vp_in v6 32 ∧ vp_in (v5 + v6) 1536 ∧ ∀ h7, h7 = mSI h (a1 + 5) (v5 + v6).toNatClampNeg ((mI h (a1 + 5) (v5 + v6).toNatClampNeg) &&& (m_not (mI h (a1 + 1) v6.toNatClampNeg))) → mW G kX6_begin (d + 2) b 49 [some (.inr (some 28)), some (.inr (some a1)), some (.inl v2), some (.inr (some a3)), some (.inl v4), some (.inl v5), some (.inl (v6 + 1)), none, none] [] h7 Q))) ∧ (¬ (v6 < (mI h 28 3)) → (((mI h 28 4) < v6 → ((v2 ≤ 0 → vp_in v6 32 ∧ vp_in (v5 + v6) 1536 ∧ ∀ h11, h11 = mSI h (a1 + 5) (v5 + v6).toNatClampNeg (0 &&& (m_not (mI h (a1 + 1) v6.toNatClampNeg))) → mW G kX6_begin (d + 2) b 49 [some (.inr (some 28)), some (.inr (some a1)), some (.inl v2), some (.inr (some a3)), some (.inl v4), some (.inl v5), some (.inl (v6 + 1)), none, none] [] h11 Q) ∧ (¬ (v2 ≤ 0) → vp_in (v5 + v6) 1536 ∧ vp_in v6 32 ∧ vp_in (v5 + v6) 1536 ∧ ∀ h15, h15 = mSI h (a1 + 5) (v5 + v6).toNatClampNeg ((mI h (a1 + 5) (v5 + v6).toNatClampNeg) &&& (m_not (mI h (a1 + 1) v6.toNatClampNeg))) → mW G kX6_begin (d + 2) b 49 [some (.inr (some 28)), some (.inr (some a1)), some (.inl v2), some (.inr (some a3)), some (.inl v4), some (.inl v5), some (.inl (v6 + 1)), none, none] [] h15 Q))) ∧ (¬ ((mI h 28 4) < v6) → ((v2 ≤ 0 → vp_in v6 32 ∧ vp_in (v5 + v6) 1536 ∧ ∀ h19, h19 = mSI h (a1 + 5) (v5 + v6).toNatClampNeg ((mI h 28 5) &&& (m_not (mI h (a1 + 1) v6.toNatClampNeg))) → mW G kX6_begin (d + 2) b 49 [some (.inr (some 28)), some (.inr (some a1)), some (.inl v2), some (.inr (some a3)), some (.inl v4), some (.inl v5), some (.inl (v6 + 1)), none, none] [] h19 Q) ∧ (¬ (v2 ≤ 0) → vp_in (v5 + v6) 1536 ∧ vp_in v6 32 ∧ vp_in (v5 + v6) 1536 ∧ ∀ h23, h23 = mSI h (a1 + 5) (v5 + v6).toNatClampNeg ((mI h (a1 + 5) (v5 + v6).toNatClampNeg) &&& (m_not (mI h (a1 + 1) v6.toNatClampNeg))) → mW G kX6_begin (d + 2) b 49 [some (.inr (some 28)), some (.inr (some a1)), some (.inl v2), some (.inr (some a3)), some (.inl v4), some (.inl v5), some (.inl (v6 + 1)), none, none] [] h23 Q))))))))) : mW G kX6_begin (d + 2) b 49 [some (.inr (some 28)), some (.inr (some a1)), some (.inl v2), some (.inr (some a3)), some (.inl v4), some (.inl v5), some (.inl v6), none, none] [] h Q := by
  refine mw_iload (pc' := 51) dX6_begin_49 rfl rfl ?_
  refine mw_bipush (pc' := 53) (v := 32) dX6_begin_51 rfl (by decide) ?_
  refine mw_icmp_ge (pc' := 56) (tgt := 133) dX6_begin_53 rfl (by decide) (fun c27 => ?_) (fun c27 => ?_)
  · replace K := K.1 c27
    refine mw_iinc (pc' := 136) (v := v4 + 1) dX6_begin_133 rfl (by decide) rfl rfl ?_
    show mW _ _ _ _ _ [some (.inr (some 28)), some (.inr (some a1)), some (.inl v2), some (.inr (some a3)), some (.inl (v4 + 1)), some (.inl v5), some (.inl v6), none, none] _ _ _
    refine mw_goto (tgt := 3) dX6_begin_136 (by decide) ?_
    refine mw_weak (ls' := [some (.inr (some 28)), some (.inr (some a1)), some (.inl v2), some (.inr (some a3)), some (.inl (v4 + 1)), none, none, none, none]) ?_ ?_
    · intro i v hv; match i, hv with
      | 0, hv => exact hv
      | 1, hv => exact hv
      | 2, hv => exact hv
      | 3, hv => exact hv
      | 4, hv => exact hv
      | 5, hv => cases hv
      | 6, hv => cases hv
      | 7, hv => cases hv
      | 8, hv => cases hv
      | n + 9, hv => cases hv
    exact K
  · replace K := K.2 c27
    refine mw_iload (pc' := 58) dX6_begin_56 rfl rfl ?_
    refine mw_aload_n (pc' := 59) dX6_begin_58 rfl rfl ?_
    refine mw_getI (pc' := 62) dX6_begin_59 rfl flX6_110 rfl (skT_28 hS) ?_
    refine mw_icmp_lt (pc' := 65) (tgt := 81) dX6_begin_62 rfl (by decide) (fun c26 => ?_) (fun c26 => ?_)
    · replace K := K.1 c26
      refine mw_iconst (pc' := 82) (v := 0) dX6_begin_81 rfl (by decide) ?_
      refine mw_istore (pc' := 84) dX6_begin_82 rfl (by decide) ?_
      show mW _ _ _ _ _ [some (.inr (some 28)), some (.inr (some a1)), some (.inl v2), some (.inr (some a3)), some (.inl v4), some (.inl v5), some (.inl v6), some (.inl 0), none] _ _ _
      refine mw_iload_n (pc' := 85) dX6_begin_84 rfl rfl ?_
      refine mw_if_le (pc' := 88) (tgt := 101) dX6_begin_85 rfl (by decide) (fun c8 => ?_) (fun c8 => ?_)
      · replace K := K.1 c8
        refine mw_iload (pc' := 103) dX6_begin_101 rfl rfl ?_
        refine mw_istore (pc' := 105) dX6_begin_103 rfl (by decide) ?_
        show mW _ _ _ _ _ [some (.inr (some 28)), some (.inr (some a1)), some (.inl v2), some (.inr (some a3)), some (.inl v4), some (.inl v5), some (.inl v6), some (.inl 0), some (.inl 0)] _ _ _
        refine mw_aload_n (pc' := 106) dX6_begin_105 rfl rfl ?_
        refine mw_getR (pc' := 109) dX6_begin_106 rfl flX6_94 rfl (ta1) ?_
        rw [skBR_1_9 hS ta1]
        refine mw_iload (pc' := 111) dX6_begin_109 rfl rfl ?_
        refine mw_iload (pc' := 113) dX6_begin_111 rfl rfl ?_
        refine mw_iadd (pc' := 114) dX6_begin_113 rfl ?_
        refine mw_iload (pc' := 116) dX6_begin_114 rfl rfl ?_
        refine mw_aload_n (pc' := 117) dX6_begin_116 rfl rfl ?_
        refine mw_getR (pc' := 120) dX6_begin_117 rfl flX6_113 rfl (ta1) ?_
        rw [skBR_1_5 hS ta1]
        refine mw_iload (pc' := 122) dX6_begin_120 rfl rfl ?_
        obtain ⟨o1, K⟩ := K
        refine mw_ialdL (pc' := 123) dX6_begin_122 rfl (skBT_1_1 hS ta1) (skBL_1_1 hS ta1) o1 ?_
        refine mw_iconst (pc' := 124) (v := (-1)) dX6_begin_123 rfl (by decide) ?_
        refine mw_ixorM (pc' := 125) dX6_begin_124 rfl ?_
        refine mw_iand (pc' := 126) dX6_begin_125 rfl ?_
        obtain ⟨o2, K⟩ := K
        refine mw_iastK (pc' := 127) dX6_begin_126 rfl (skBT_1_5 hS ta1) (skBL_1_5 hS ta1) o2 hS (fun h3 eh3 hS => ?_)
        replace K := K h3 eh3
        have ta1 : mT h3 a1 = 2 := by rw [eh3]; exact ta1
        have ta3 : mT h3 a3 = 6 := by rw [eh3]; exact ta3
        refine mw_iinc (pc' := 130) (v := v6 + 1) dX6_begin_127 rfl (by decide) rfl rfl ?_
        show mW _ _ _ _ _ [some (.inr (some 28)), some (.inr (some a1)), some (.inl v2), some (.inr (some a3)), some (.inl v4), some (.inl v5), some (.inl (v6 + 1)), some (.inl 0), some (.inl 0)] _ _ _
        refine mw_goto (tgt := 49) dX6_begin_130 (by decide) ?_
        refine mw_weak (ls' := [some (.inr (some 28)), some (.inr (some a1)), some (.inl v2), some (.inr (some a3)), some (.inl v4), some (.inl v5), some (.inl (v6 + 1)), none, none]) ?_ ?_
        · intro i v hv; match i, hv with
          | 0, hv => exact hv
          | 1, hv => exact hv
          | 2, hv => exact hv
          | 3, hv => exact hv
          | 4, hv => exact hv
          | 5, hv => exact hv
          | 6, hv => exact hv
          | 7, hv => cases hv
          | 8, hv => cases hv
          | n + 9, hv => cases hv
        exact K
      · replace K := K.2 c8
        refine mw_aload_n (pc' := 89) dX6_begin_88 rfl rfl ?_
        refine mw_getR (pc' := 92) dX6_begin_89 rfl flX6_94 rfl (ta1) ?_
        rw [skBR_1_9 hS ta1]
        refine mw_iload (pc' := 94) dX6_begin_92 rfl rfl ?_
        refine mw_iload (pc' := 96) dX6_begin_94 rfl rfl ?_
        refine mw_iadd (pc' := 97) dX6_begin_96 rfl ?_
        obtain ⟨o4, K⟩ := K
        refine mw_ialdL (pc' := 98) dX6_begin_97 rfl (skBT_1_5 hS ta1) (skBL_1_5 hS ta1) o4 ?_
        refine mw_goto (tgt := 103) dX6_begin_98 (by decide) ?_
        refine mw_istore (pc' := 105) dX6_begin_103 rfl (by decide) ?_
        show mW _ _ _ _ _ [some (.inr (some 28)), some (.inr (some a1)), some (.inl v2), some (.inr (some a3)), some (.inl v4), some (.inl v5), some (.inl v6), some (.inl 0), some (.inl (mI h (a1 + 5) (v5 + v6).toNatClampNeg))] _ _ _
        refine mw_aload_n (pc' := 106) dX6_begin_105 rfl rfl ?_
        refine mw_getR (pc' := 109) dX6_begin_106 rfl flX6_94 rfl (ta1) ?_
        rw [skBR_1_9 hS ta1]
        refine mw_iload (pc' := 111) dX6_begin_109 rfl rfl ?_
        refine mw_iload (pc' := 113) dX6_begin_111 rfl rfl ?_
        refine mw_iadd (pc' := 114) dX6_begin_113 rfl ?_
        refine mw_iload (pc' := 116) dX6_begin_114 rfl rfl ?_
        refine mw_aload_n (pc' := 117) dX6_begin_116 rfl rfl ?_
        refine mw_getR (pc' := 120) dX6_begin_117 rfl flX6_113 rfl (ta1) ?_
        rw [skBR_1_5 hS ta1]
        refine mw_iload (pc' := 122) dX6_begin_120 rfl rfl ?_
        obtain ⟨o5, K⟩ := K
        refine mw_ialdL (pc' := 123) dX6_begin_122 rfl (skBT_1_1 hS ta1) (skBL_1_1 hS ta1) o5 ?_
        refine mw_iconst (pc' := 124) (v := (-1)) dX6_begin_123 rfl (by decide) ?_
        refine mw_ixorM (pc' := 125) dX6_begin_124 rfl ?_
        refine mw_iand (pc' := 126) dX6_begin_125 rfl ?_
        obtain ⟨o6, K⟩ := K
        refine mw_iastK (pc' := 127) dX6_begin_126 rfl (skBT_1_5 hS ta1) (skBL_1_5 hS ta1) o6 hS (fun h7 eh7 hS => ?_)
        replace K := K h7 eh7
        have ta1 : mT h7 a1 = 2 := by rw [eh7]; exact ta1
        have ta3 : mT h7 a3 = 6 := by rw [eh7]; exact ta3
        refine mw_iinc (pc' := 130) (v := v6 + 1) dX6_begin_127 rfl (by decide) rfl rfl ?_
        show mW _ _ _ _ _ [some (.inr (some 28)), some (.inr (some a1)), some (.inl v2), some (.inr (some a3)), some (.inl v4), some (.inl v5), some (.inl (v6 + 1)), some (.inl 0), some (.inl (mI h (a1 + 5) (v5 + v6).toNatClampNeg))] _ _ _
        refine mw_goto (tgt := 49) dX6_begin_130 (by decide) ?_
        refine mw_weak (ls' := [some (.inr (some 28)), some (.inr (some a1)), some (.inl v2), some (.inr (some a3)), some (.inl v4), some (.inl v5), some (.inl (v6 + 1)), none, none]) ?_ ?_
        · intro i v hv; match i, hv with
          | 0, hv => exact hv
          | 1, hv => exact hv
          | 2, hv => exact hv
          | 3, hv => exact hv
          | 4, hv => exact hv
          | 5, hv => exact hv
          | 6, hv => exact hv
          | 7, hv => cases hv
          | 8, hv => cases hv
          | n + 9, hv => cases hv
        exact K
    · replace K := K.2 c26
      refine mw_iload (pc' := 67) dX6_begin_65 rfl rfl ?_
      refine mw_aload_n (pc' := 68) dX6_begin_67 rfl rfl ?_
      refine mw_getI (pc' := 71) dX6_begin_68 rfl flX6_17 rfl (skT_28 hS) ?_
      refine mw_icmp_gt (pc' := 74) (tgt := 81) dX6_begin_71 rfl (by decide) (fun c25 => ?_) (fun c25 => ?_)
      · replace K := K.1 c25
        refine mw_iconst (pc' := 82) (v := 0) dX6_begin_81 rfl (by decide) ?_
        refine mw_istore (pc' := 84) dX6_begin_82 rfl (by decide) ?_
        show mW _ _ _ _ _ [some (.inr (some 28)), some (.inr (some a1)), some (.inl v2), some (.inr (some a3)), some (.inl v4), some (.inl v5), some (.inl v6), some (.inl 0), none] _ _ _
        refine mw_iload_n (pc' := 85) dX6_begin_84 rfl rfl ?_
        refine mw_if_le (pc' := 88) (tgt := 101) dX6_begin_85 rfl (by decide) (fun c16 => ?_) (fun c16 => ?_)
        · replace K := K.1 c16
          refine mw_iload (pc' := 103) dX6_begin_101 rfl rfl ?_
          refine mw_istore (pc' := 105) dX6_begin_103 rfl (by decide) ?_
          show mW _ _ _ _ _ [some (.inr (some 28)), some (.inr (some a1)), some (.inl v2), some (.inr (some a3)), some (.inl v4), some (.inl v5), some (.inl v6), some (.inl 0), some (.inl 0)] _ _ _
          refine mw_aload_n (pc' := 106) dX6_begin_105 rfl rfl ?_
          refine mw_getR (pc' := 109) dX6_begin_106 rfl flX6_94 rfl (ta1) ?_
          rw [skBR_1_9 hS ta1]
          refine mw_iload (pc' := 111) dX6_begin_109 rfl rfl ?_
          refine mw_iload (pc' := 113) dX6_begin_111 rfl rfl ?_
          refine mw_iadd (pc' := 114) dX6_begin_113 rfl ?_
          refine mw_iload (pc' := 116) dX6_begin_114 rfl rfl ?_
          refine mw_aload_n (pc' := 117) dX6_begin_116 rfl rfl ?_
          refine mw_getR (pc' := 120) dX6_begin_117 rfl flX6_113 rfl (ta1) ?_
          rw [skBR_1_5 hS ta1]
          refine mw_iload (pc' := 122) dX6_begin_120 rfl rfl ?_
          obtain ⟨o9, K⟩ := K
          refine mw_ialdL (pc' := 123) dX6_begin_122 rfl (skBT_1_1 hS ta1) (skBL_1_1 hS ta1) o9 ?_
          refine mw_iconst (pc' := 124) (v := (-1)) dX6_begin_123 rfl (by decide) ?_
          refine mw_ixorM (pc' := 125) dX6_begin_124 rfl ?_
          refine mw_iand (pc' := 126) dX6_begin_125 rfl ?_
          obtain ⟨o10, K⟩ := K
          refine mw_iastK (pc' := 127) dX6_begin_126 rfl (skBT_1_5 hS ta1) (skBL_1_5 hS ta1) o10 hS (fun h11 eh11 hS => ?_)
          replace K := K h11 eh11
          have ta1 : mT h11 a1 = 2 := by rw [eh11]; exact ta1
          have ta3 : mT h11 a3 = 6 := by rw [eh11]; exact ta3
          refine mw_iinc (pc' := 130) (v := v6 + 1) dX6_begin_127 rfl (by decide) rfl rfl ?_
          show mW _ _ _ _ _ [some (.inr (some 28)), some (.inr (some a1)), some (.inl v2), some (.inr (some a3)), some (.inl v4), some (.inl v5), some (.inl (v6 + 1)), some (.inl 0), some (.inl 0)] _ _ _
          refine mw_goto (tgt := 49) dX6_begin_130 (by decide) ?_
          refine mw_weak (ls' := [some (.inr (some 28)), some (.inr (some a1)), some (.inl v2), some (.inr (some a3)), some (.inl v4), some (.inl v5), some (.inl (v6 + 1)), none, none]) ?_ ?_
          · intro i v hv; match i, hv with
            | 0, hv => exact hv
            | 1, hv => exact hv
            | 2, hv => exact hv
            | 3, hv => exact hv
            | 4, hv => exact hv
            | 5, hv => exact hv
            | 6, hv => exact hv
            | 7, hv => cases hv
            | 8, hv => cases hv
            | n + 9, hv => cases hv
          exact K
        · replace K := K.2 c16
          refine mw_aload_n (pc' := 89) dX6_begin_88 rfl rfl ?_
          refine mw_getR (pc' := 92) dX6_begin_89 rfl flX6_94 rfl (ta1) ?_
          rw [skBR_1_9 hS ta1]
          refine mw_iload (pc' := 94) dX6_begin_92 rfl rfl ?_
          refine mw_iload (pc' := 96) dX6_begin_94 rfl rfl ?_
          refine mw_iadd (pc' := 97) dX6_begin_96 rfl ?_
          obtain ⟨o12, K⟩ := K
          refine mw_ialdL (pc' := 98) dX6_begin_97 rfl (skBT_1_5 hS ta1) (skBL_1_5 hS ta1) o12 ?_
          refine mw_goto (tgt := 103) dX6_begin_98 (by decide) ?_
          refine mw_istore (pc' := 105) dX6_begin_103 rfl (by decide) ?_
          show mW _ _ _ _ _ [some (.inr (some 28)), some (.inr (some a1)), some (.inl v2), some (.inr (some a3)), some (.inl v4), some (.inl v5), some (.inl v6), some (.inl 0), some (.inl (mI h (a1 + 5) (v5 + v6).toNatClampNeg))] _ _ _
          refine mw_aload_n (pc' := 106) dX6_begin_105 rfl rfl ?_
          refine mw_getR (pc' := 109) dX6_begin_106 rfl flX6_94 rfl (ta1) ?_
          rw [skBR_1_9 hS ta1]
          refine mw_iload (pc' := 111) dX6_begin_109 rfl rfl ?_
          refine mw_iload (pc' := 113) dX6_begin_111 rfl rfl ?_
          refine mw_iadd (pc' := 114) dX6_begin_113 rfl ?_
          refine mw_iload (pc' := 116) dX6_begin_114 rfl rfl ?_
          refine mw_aload_n (pc' := 117) dX6_begin_116 rfl rfl ?_
          refine mw_getR (pc' := 120) dX6_begin_117 rfl flX6_113 rfl (ta1) ?_
          rw [skBR_1_5 hS ta1]
          refine mw_iload (pc' := 122) dX6_begin_120 rfl rfl ?_
          obtain ⟨o13, K⟩ := K
          refine mw_ialdL (pc' := 123) dX6_begin_122 rfl (skBT_1_1 hS ta1) (skBL_1_1 hS ta1) o13 ?_
          refine mw_iconst (pc' := 124) (v := (-1)) dX6_begin_123 rfl (by decide) ?_
          refine mw_ixorM (pc' := 125) dX6_begin_124 rfl ?_
          refine mw_iand (pc' := 126) dX6_begin_125 rfl ?_
          obtain ⟨o14, K⟩ := K
          refine mw_iastK (pc' := 127) dX6_begin_126 rfl (skBT_1_5 hS ta1) (skBL_1_5 hS ta1) o14 hS (fun h15 eh15 hS => ?_)
          replace K := K h15 eh15
          have ta1 : mT h15 a1 = 2 := by rw [eh15]; exact ta1
          have ta3 : mT h15 a3 = 6 := by rw [eh15]; exact ta3
          refine mw_iinc (pc' := 130) (v := v6 + 1) dX6_begin_127 rfl (by decide) rfl rfl ?_
          show mW _ _ _ _ _ [some (.inr (some 28)), some (.inr (some a1)), some (.inl v2), some (.inr (some a3)), some (.inl v4), some (.inl v5), some (.inl (v6 + 1)), some (.inl 0), some (.inl (mI h (a1 + 5) (v5 + v6).toNatClampNeg))] _ _ _
          refine mw_goto (tgt := 49) dX6_begin_130 (by decide) ?_
          refine mw_weak (ls' := [some (.inr (some 28)), some (.inr (some a1)), some (.inl v2), some (.inr (some a3)), some (.inl v4), some (.inl v5), some (.inl (v6 + 1)), none, none]) ?_ ?_
          · intro i v hv; match i, hv with
            | 0, hv => exact hv
            | 1, hv => exact hv
            | 2, hv => exact hv
            | 3, hv => exact hv
            | 4, hv => exact hv
            | 5, hv => exact hv
            | 6, hv => exact hv
            | 7, hv => cases hv
            | 8, hv => cases hv
            | n + 9, hv => cases hv
          exact K
      · replace K := K.2 c25
        refine mw_aload_n (pc' := 75) dX6_begin_74 rfl rfl ?_
        refine mw_getI (pc' := 78) dX6_begin_75 rfl flX6_21 rfl (skT_28 hS) ?_
        refine mw_goto (tgt := 82) dX6_begin_78 (by decide) ?_
        refine mw_istore (pc' := 84) dX6_begin_82 rfl (by decide) ?_
        show mW _ _ _ _ _ [some (.inr (some 28)), some (.inr (some a1)), some (.inl v2), some (.inr (some a3)), some (.inl v4), some (.inl v5), some (.inl v6), some (.inl (mI h 28 5)), none] _ _ _
        refine mw_iload_n (pc' := 85) dX6_begin_84 rfl rfl ?_
        refine mw_if_le (pc' := 88) (tgt := 101) dX6_begin_85 rfl (by decide) (fun c24 => ?_) (fun c24 => ?_)
        · replace K := K.1 c24
          refine mw_iload (pc' := 103) dX6_begin_101 rfl rfl ?_
          refine mw_istore (pc' := 105) dX6_begin_103 rfl (by decide) ?_
          show mW _ _ _ _ _ [some (.inr (some 28)), some (.inr (some a1)), some (.inl v2), some (.inr (some a3)), some (.inl v4), some (.inl v5), some (.inl v6), some (.inl (mI h 28 5)), some (.inl (mI h 28 5))] _ _ _
          refine mw_aload_n (pc' := 106) dX6_begin_105 rfl rfl ?_
          refine mw_getR (pc' := 109) dX6_begin_106 rfl flX6_94 rfl (ta1) ?_
          rw [skBR_1_9 hS ta1]
          refine mw_iload (pc' := 111) dX6_begin_109 rfl rfl ?_
          refine mw_iload (pc' := 113) dX6_begin_111 rfl rfl ?_
          refine mw_iadd (pc' := 114) dX6_begin_113 rfl ?_
          refine mw_iload (pc' := 116) dX6_begin_114 rfl rfl ?_
          refine mw_aload_n (pc' := 117) dX6_begin_116 rfl rfl ?_
          refine mw_getR (pc' := 120) dX6_begin_117 rfl flX6_113 rfl (ta1) ?_
          rw [skBR_1_5 hS ta1]
          refine mw_iload (pc' := 122) dX6_begin_120 rfl rfl ?_
          obtain ⟨o17, K⟩ := K
          refine mw_ialdL (pc' := 123) dX6_begin_122 rfl (skBT_1_1 hS ta1) (skBL_1_1 hS ta1) o17 ?_
          refine mw_iconst (pc' := 124) (v := (-1)) dX6_begin_123 rfl (by decide) ?_
          refine mw_ixorM (pc' := 125) dX6_begin_124 rfl ?_
          refine mw_iand (pc' := 126) dX6_begin_125 rfl ?_
          obtain ⟨o18, K⟩ := K
          refine mw_iastK (pc' := 127) dX6_begin_126 rfl (skBT_1_5 hS ta1) (skBL_1_5 hS ta1) o18 hS (fun h19 eh19 hS => ?_)
          replace K := K h19 eh19
          have ta1 : mT h19 a1 = 2 := by rw [eh19]; exact ta1
          have ta3 : mT h19 a3 = 6 := by rw [eh19]; exact ta3
          refine mw_iinc (pc' := 130) (v := v6 + 1) dX6_begin_127 rfl (by decide) rfl rfl ?_
          show mW _ _ _ _ _ [some (.inr (some 28)), some (.inr (some a1)), some (.inl v2), some (.inr (some a3)), some (.inl v4), some (.inl v5), some (.inl (v6 + 1)), some (.inl (mI h 28 5)), some (.inl (mI h 28 5))] _ _ _
          refine mw_goto (tgt := 49) dX6_begin_130 (by decide) ?_
          refine mw_weak (ls' := [some (.inr (some 28)), some (.inr (some a1)), some (.inl v2), some (.inr (some a3)), some (.inl v4), some (.inl v5), some (.inl (v6 + 1)), none, none]) ?_ ?_
          · intro i v hv; match i, hv with
            | 0, hv => exact hv
            | 1, hv => exact hv
            | 2, hv => exact hv
            | 3, hv => exact hv
            | 4, hv => exact hv
            | 5, hv => exact hv
            | 6, hv => exact hv
            | 7, hv => cases hv
            | 8, hv => cases hv
            | n + 9, hv => cases hv
          exact K
        · replace K := K.2 c24
          refine mw_aload_n (pc' := 89) dX6_begin_88 rfl rfl ?_
          refine mw_getR (pc' := 92) dX6_begin_89 rfl flX6_94 rfl (ta1) ?_
          rw [skBR_1_9 hS ta1]
          refine mw_iload (pc' := 94) dX6_begin_92 rfl rfl ?_
          refine mw_iload (pc' := 96) dX6_begin_94 rfl rfl ?_
          refine mw_iadd (pc' := 97) dX6_begin_96 rfl ?_
          obtain ⟨o20, K⟩ := K
          refine mw_ialdL (pc' := 98) dX6_begin_97 rfl (skBT_1_5 hS ta1) (skBL_1_5 hS ta1) o20 ?_
          refine mw_goto (tgt := 103) dX6_begin_98 (by decide) ?_
          refine mw_istore (pc' := 105) dX6_begin_103 rfl (by decide) ?_
          show mW _ _ _ _ _ [some (.inr (some 28)), some (.inr (some a1)), some (.inl v2), some (.inr (some a3)), some (.inl v4), some (.inl v5), some (.inl v6), some (.inl (mI h 28 5)), some (.inl (mI h (a1 + 5) (v5 + v6).toNatClampNeg))] _ _ _
          refine mw_aload_n (pc' := 106) dX6_begin_105 rfl rfl ?_
          refine mw_getR (pc' := 109) dX6_begin_106 rfl flX6_94 rfl (ta1) ?_
          rw [skBR_1_9 hS ta1]
          refine mw_iload (pc' := 111) dX6_begin_109 rfl rfl ?_
          refine mw_iload (pc' := 113) dX6_begin_111 rfl rfl ?_
          refine mw_iadd (pc' := 114) dX6_begin_113 rfl ?_
          refine mw_iload (pc' := 116) dX6_begin_114 rfl rfl ?_
          refine mw_aload_n (pc' := 117) dX6_begin_116 rfl rfl ?_
          refine mw_getR (pc' := 120) dX6_begin_117 rfl flX6_113 rfl (ta1) ?_
          rw [skBR_1_5 hS ta1]
          refine mw_iload (pc' := 122) dX6_begin_120 rfl rfl ?_
          obtain ⟨o21, K⟩ := K
          refine mw_ialdL (pc' := 123) dX6_begin_122 rfl (skBT_1_1 hS ta1) (skBL_1_1 hS ta1) o21 ?_
          refine mw_iconst (pc' := 124) (v := (-1)) dX6_begin_123 rfl (by decide) ?_
          refine mw_ixorM (pc' := 125) dX6_begin_124 rfl ?_
          refine mw_iand (pc' := 126) dX6_begin_125 rfl ?_
          obtain ⟨o22, K⟩ := K
          refine mw_iastK (pc' := 127) dX6_begin_126 rfl (skBT_1_5 hS ta1) (skBL_1_5 hS ta1) o22 hS (fun h23 eh23 hS => ?_)
          replace K := K h23 eh23
          have ta1 : mT h23 a1 = 2 := by rw [eh23]; exact ta1
          have ta3 : mT h23 a3 = 6 := by rw [eh23]; exact ta3
          refine mw_iinc (pc' := 130) (v := v6 + 1) dX6_begin_127 rfl (by decide) rfl rfl ?_
          show mW _ _ _ _ _ [some (.inr (some 28)), some (.inr (some a1)), some (.inl v2), some (.inr (some a3)), some (.inl v4), some (.inl v5), some (.inl (v6 + 1)), some (.inl (mI h 28 5)), some (.inl (mI h (a1 + 5) (v5 + v6).toNatClampNeg))] _ _ _
          refine mw_goto (tgt := 49) dX6_begin_130 (by decide) ?_
          refine mw_weak (ls' := [some (.inr (some 28)), some (.inr (some a1)), some (.inl v2), some (.inr (some a3)), some (.inl v4), some (.inl v5), some (.inl (v6 + 1)), none, none]) ?_ ?_
          · intro i v hv; match i, hv with
            | 0, hv => exact hv
            | 1, hv => exact hv
            | 2, hv => exact hv
            | 3, hv => exact hv
            | 4, hv => exact hv
            | 5, hv => exact hv
            | 6, hv => exact hv
            | 7, hv => cases hv
            | 8, hv => cases hv
            | n + 9, hv => cases hv
          exact K

set_option maxRecDepth 100000 in
set_option maxHeartbeats 4000000 in
theorem qX6_drift {G : mG} {d : Nat} {b : Nat × Nat} {h : mH} {Q : Option mV → mH → Prop} (a1 : Nat) (v2 : Int32) (v3 : Int32) (a4 : Nat) (v5 : Int32) (ta1 : mT h a1 = 100) (ta4 : mT h a4 = 6) (hS : mSk h)
    (K : mW G kX6_drift (d + 1) b 3 [some (.inr (some 28)), some (.inr (some a1)), some (.inl v2), some (.inl v3), some (.inr (some a4)), some (.inl v5), some (.inl 0), none, none, none, none] [] h Q) : mC G kX6_drift (d + 1) b [.inr (some 28), .inr (some a1), .inl v2, .inl v3, .inr (some a4), .inl v5] h Q := by
  refine mC_in rfl (Nat.le_of_ble_eq_true rfl) ?_
  show mW _ _ _ _ _ [some (.inr (some 28)), some (.inr (some a1)), some (.inl v2), some (.inl v3), some (.inr (some a4)), some (.inl v5), none, none, none, none, none] _ _ _
  refine mw_iconst (pc' := 1) (v := 0) dX6_drift_0 rfl (by decide) ?_
  refine mw_istore (pc' := 3) dX6_drift_1 rfl (by decide) ?_
  show mW _ _ _ _ _ [some (.inr (some 28)), some (.inr (some a1)), some (.inl v2), some (.inl v3), some (.inr (some a4)), some (.inl v5), some (.inl 0), none, none, none, none] _ _ _
  exact K

set_option maxRecDepth 100000 in
set_option maxHeartbeats 4000000 in
theorem qX6_drift_3 {G : mG} {d : Nat} {b : Nat × Nat} {h : mH} {Q : Option mV → mH → Prop} (a1 : Nat) (v2 : Int32) (v3 : Int32) (a4 : Nat) (v5 : Int32) (v6 : Int32) (ta1 : mT h a1 = 100) (ta4 : mT h a4 = 6) (hS : mSk h)
    (K : ((32 ≤ v6 → mW G kX6_drift (d + 1) b 90 [some (.inr (some 28)), some (.inr (some a1)), none, some (.inl v3), some (.inr (some a4)), some (.inl v5), some (.inl 0), none, none, none, none] [] h Q) ∧ (¬ (32 ≤ v6) → vp_in (v2 + v6) (mL h a1) ∧ vp_in v6 32 ∧ ∀ h3, h3 = mSI h 30 v6.toNatClampNeg 0 → mW G kX6_drift (d + 1) b 34 [some (.inr (some 28)), some (.inr (some a1)), some (.inl v2), some (.inl v3), some (.inr (some a4)), some (.inl v5), some (.inl v6), some (.inl (mI h a1 (v2 + v6).toNatClampNeg)), some (.inl (-(mI h3 a4 2))), none, none] [] h3 Q))) : mW G kX6_drift (d + 1) b 3 [some (.inr (some 28)), some (.inr (some a1)), some (.inl v2), some (.inl v3), some (.inr (some a4)), some (.inl v5), some (.inl v6), none, none, none, none] [] h Q := by
  refine mw_iload (pc' := 5) dX6_drift_3 rfl rfl ?_
  refine mw_bipush (pc' := 7) (v := 32) dX6_drift_5 rfl (by decide) ?_
  refine mw_icmp_ge (pc' := 10) (tgt := 87) dX6_drift_7 rfl (by decide) (fun c4 => ?_) (fun c4 => ?_)
  · replace K := K.1 c4
    refine mw_iconst (pc' := 88) (v := 0) dX6_drift_87 rfl (by decide) ?_
    refine mw_istore (pc' := 90) dX6_drift_88 rfl (by decide) ?_
    show mW _ _ _ _ _ [some (.inr (some 28)), some (.inr (some a1)), some (.inl v2), some (.inl v3), some (.inr (some a4)), some (.inl v5), some (.inl 0), none, none, none, none] _ _ _
    refine mw_weak (ls' := [some (.inr (some 28)), some (.inr (some a1)), none, some (.inl v3), some (.inr (some a4)), some (.inl v5), some (.inl 0), none, none, none, none]) ?_ ?_
    · intro i v hv; match i, hv with
      | 0, hv => exact hv
      | 1, hv => exact hv
      | 2, hv => cases hv
      | 3, hv => exact hv
      | 4, hv => exact hv
      | 5, hv => exact hv
      | 6, hv => exact hv
      | 7, hv => cases hv
      | 8, hv => cases hv
      | 9, hv => cases hv
      | 10, hv => cases hv
      | n + 11, hv => cases hv
    exact K
  · replace K := K.2 c4
    refine mw_aload_n (pc' := 11) dX6_drift_10 rfl rfl ?_
    refine mw_iload_n (pc' := 12) dX6_drift_11 rfl rfl ?_
    refine mw_iload (pc' := 14) dX6_drift_12 rfl rfl ?_
    refine mw_iadd (pc' := 15) dX6_drift_14 rfl ?_
    obtain ⟨o1, K⟩ := K
    refine mw_ialdL (pc' := 16) dX6_drift_15 rfl (ta1) (rfl) o1 ?_
    refine mw_istore (pc' := 18) dX6_drift_16 rfl (by decide) ?_
    show mW _ _ _ _ _ [some (.inr (some 28)), some (.inr (some a1)), some (.inl v2), some (.inl v3), some (.inr (some a4)), some (.inl v5), some (.inl v6), some (.inl (mI h a1 (v2 + v6).toNatClampNeg)), none, none, none] _ _ _
    refine mw_aload_n (pc' := 19) dX6_drift_18 rfl rfl ?_
    refine mw_getR (pc' := 22) dX6_drift_19 rfl flX6_31 rfl (skT_28 hS) ?_
    rw [skR_28_7 hS]
    refine mw_iload (pc' := 24) dX6_drift_22 rfl rfl ?_
    refine mw_iconst (pc' := 25) (v := 0) dX6_drift_24 rfl (by decide) ?_
    obtain ⟨o2, K⟩ := K
    refine mw_iastK (pc' := 26) dX6_drift_25 rfl (skT_30 hS) (skL_30 hS) o2 hS (fun h3 eh3 hS => ?_)
    replace K := K h3 eh3
    have ta1 : mT h3 a1 = 100 := by rw [eh3]; exact ta1
    have ta4 : mT h3 a4 = 6 := by rw [eh3]; exact ta4
    refine mw_aload (pc' := 28) dX6_drift_26 rfl rfl ?_
    refine mw_getI (pc' := 31) dX6_drift_28 rfl flX6_51 rfl (ta4) ?_
    refine mw_ineg (pc' := 32) dX6_drift_31 rfl ?_
    refine mw_istore (pc' := 34) dX6_drift_32 rfl (by decide) ?_
    show mW _ _ _ _ _ [some (.inr (some 28)), some (.inr (some a1)), some (.inl v2), some (.inl v3), some (.inr (some a4)), some (.inl v5), some (.inl v6), some (.inl (mI h a1 (v2 + v6).toNatClampNeg)), some (.inl (-(mI h3 a4 2))), none, none] _ _ _
    exact K

set_option maxRecDepth 100000 in
set_option maxHeartbeats 4000000 in
theorem qX6_drift_34 {G : mG} {d : Nat} {b : Nat × Nat} {h : mH} {Q : Option mV → mH → Prop} (a1 : Nat) (v2 : Int32) (v3 : Int32) (a4 : Nat) (v5 : Int32) (v6 : Int32) (v7 : Int32) (v8 : Int32) (ta1 : mT h a1 = 100) (ta4 : mT h a4 = 6) (hS : mSk h)
    (K : ((v7 = 0 → mW G kX6_drift (d + 1) b 3 [some (.inr (some 28)), some (.inr (some a1)), some (.inl v2), some (.inl v3), some (.inr (some a4)), some (.inl v5), some (.inl (v6 + 1)), none, none, none, none] [] h Q) ∧ (¬ v7 = 0 → (((mI h a4 2) < v8 → mW G kX6_drift (d + 1) b 3 [some (.inr (some 28)), some (.inr (some a1)), some (.inl v2), some (.inl v3), some (.inr (some a4)), some (.inl v5), some (.inl (v6 + 1)), none, none, none, none] [] h Q) ∧ (¬ ((mI h a4 2) < v8) → vp_in v6 32 ∧ vp_in v6 32 ∧ ∀ h3, h3 = mSI h 30 v6.toNatClampNeg ((mI h 30 v6.toNatClampNeg) ||| (f_X11_moved v7 ((v5 * (mI h a4 0)) + v8))) → mW G kX6_drift (d + 1) b 34 [some (.inr (some 28)), some (.inr (some a1)), some (.inl v2), some (.inl v3), some (.inr (some a4)), some (.inl v5), some (.inl v6), some (.inl v7), some (.inl (v8 + 1)), none, none] [] h3 Q))))) : mW G kX6_drift (d + 1) b 34 [some (.inr (some 28)), some (.inr (some a1)), some (.inl v2), some (.inl v3), some (.inr (some a4)), some (.inl v5), some (.inl v6), some (.inl v7), some (.inl v8), none, none] [] h Q := by
  refine mw_iload (pc' := 36) dX6_drift_34 rfl rfl ?_
  refine mw_if_eq (pc' := 39) (tgt := 81) dX6_drift_36 rfl (by decide) (fun c5 => ?_) (fun c5 => ?_)
  · replace K := K.1 c5
    refine mw_iinc (pc' := 84) (v := v6 + 1) dX6_drift_81 rfl (by decide) rfl rfl ?_
    show mW _ _ _ _ _ [some (.inr (some 28)), some (.inr (some a1)), some (.inl v2), some (.inl v3), some (.inr (some a4)), some (.inl v5), some (.inl (v6 + 1)), some (.inl v7), some (.inl v8), none, none] _ _ _
    refine mw_goto (tgt := 3) dX6_drift_84 (by decide) ?_
    refine mw_weak (ls' := [some (.inr (some 28)), some (.inr (some a1)), some (.inl v2), some (.inl v3), some (.inr (some a4)), some (.inl v5), some (.inl (v6 + 1)), none, none, none, none]) ?_ ?_
    · intro i v hv; match i, hv with
      | 0, hv => exact hv
      | 1, hv => exact hv
      | 2, hv => exact hv
      | 3, hv => exact hv
      | 4, hv => exact hv
      | 5, hv => exact hv
      | 6, hv => exact hv
      | 7, hv => cases hv
      | 8, hv => cases hv
      | 9, hv => cases hv
      | 10, hv => cases hv
      | n + 11, hv => cases hv
    exact K
  · replace K := K.2 c5
    refine mw_iload (pc' := 41) dX6_drift_39 rfl rfl ?_
    refine mw_aload (pc' := 43) dX6_drift_41 rfl rfl ?_
    refine mw_getI (pc' := 46) dX6_drift_43 rfl flX6_51 rfl (ta4) ?_
    refine mw_icmp_gt (pc' := 49) (tgt := 81) dX6_drift_46 rfl (by decide) (fun c4 => ?_) (fun c4 => ?_)
    · replace K := K.1 c4
      refine mw_iinc (pc' := 84) (v := v6 + 1) dX6_drift_81 rfl (by decide) rfl rfl ?_
      show mW _ _ _ _ _ [some (.inr (some 28)), some (.inr (some a1)), some (.inl v2), some (.inl v3), some (.inr (some a4)), some (.inl v5), some (.inl (v6 + 1)), some (.inl v7), some (.inl v8), none, none] _ _ _
      refine mw_goto (tgt := 3) dX6_drift_84 (by decide) ?_
      refine mw_weak (ls' := [some (.inr (some 28)), some (.inr (some a1)), some (.inl v2), some (.inl v3), some (.inr (some a4)), some (.inl v5), some (.inl (v6 + 1)), none, none, none, none]) ?_ ?_
      · intro i v hv; match i, hv with
        | 0, hv => exact hv
        | 1, hv => exact hv
        | 2, hv => exact hv
        | 3, hv => exact hv
        | 4, hv => exact hv
        | 5, hv => exact hv
        | 6, hv => exact hv
        | 7, hv => cases hv
        | 8, hv => cases hv
        | 9, hv => cases hv
        | 10, hv => cases hv
        | n + 11, hv => cases hv
      exact K
    · replace K := K.2 c4
      refine mw_aload_n (pc' := 50) dX6_drift_49 rfl rfl ?_
      refine mw_getR (pc' := 53) dX6_drift_50 rfl flX6_31 rfl (skT_28 hS) ?_
      rw [skR_28_7 hS]
      refine mw_iload (pc' := 55) dX6_drift_53 rfl rfl ?_
      refine mw_dup2 (pc' := 56) dX6_drift_55 rfl ?_
      obtain ⟨o1, K⟩ := K
      refine mw_ialdL (pc' := 57) dX6_drift_56 rfl (skT_30 hS) (skL_30 hS) o1 ?_
      refine mw_iload (pc' := 59) dX6_drift_57 rfl rfl ?_
      refine mw_iload (pc' := 61) dX6_drift_59 rfl rfl ?_
      refine mw_aload (pc' := 63) dX6_drift_61 rfl rfl ?_
      refine mw_getI (pc' := 66) dX6_drift_63 rfl flX6_45 rfl (ta4) ?_
      refine mw_imul (pc' := 67) dX6_drift_66 rfl ?_
      refine mw_iload (pc' := 69) dX6_drift_67 rfl rfl ?_
      refine mw_iadd (pc' := 70) dX6_drift_69 rfl ?_
      refine mw_callS (pc' := 73) (b' := (0, 0)) (b1 := b) (av := [.inl v7, .inl ((v5 * (mI h a4 0)) + v8)]) (rest := [.inl (mI h 30 v6.toNatClampNeg), .inl v6, .inr (some 30)]) dX6_drift_70 rfl lkX6_116 rfl rfl (Nat.le_of_ble_eq_true rfl) ⟨Nat.le_of_eq (Nat.zero_add _), Nat.le_of_eq (Nat.zero_add _)⟩ ?_
      refine pX11_moved ?_
      refine mw_ior (pc' := 74) dX6_drift_73 rfl ?_
      obtain ⟨o2, K⟩ := K
      refine mw_iastK (pc' := 75) dX6_drift_74 rfl (skT_30 hS) (skL_30 hS) o2 hS (fun h3 eh3 hS => ?_)
      replace K := K h3 eh3
      have ta1 : mT h3 a1 = 100 := by rw [eh3]; exact ta1
      have ta4 : mT h3 a4 = 6 := by rw [eh3]; exact ta4
      refine mw_iinc (pc' := 78) (v := v8 + 1) dX6_drift_75 rfl (by decide) rfl rfl ?_
      show mW _ _ _ _ _ [some (.inr (some 28)), some (.inr (some a1)), some (.inl v2), some (.inl v3), some (.inr (some a4)), some (.inl v5), some (.inl v6), some (.inl v7), some (.inl (v8 + 1)), none, none] _ _ _
      refine mw_goto (tgt := 34) dX6_drift_78 (by decide) ?_
      exact K

set_option maxRecDepth 100000 in
set_option maxHeartbeats 4000000 in
theorem qX6_drift_90 {G : mG} {d : Nat} {b : Nat × Nat} {h : mH} {Q : Option mV → mH → Prop} (a1 : Nat) (v3 : Int32) (a4 : Nat) (v5 : Int32) (v6 : Int32) (ta1 : mT h a1 = 100) (ta4 : mT h a4 = 6) (hS : mSk h)
    (K : ((32 ≤ v6 → Q none h) ∧ (¬ (32 ≤ v6) → mW G kX6_drift (d + 1) b 151 [some (.inr (some 28)), some (.inr (some a1)), none, some (.inl v3), some (.inr (some a4)), some (.inl v5), some (.inl v6), none, some (.inl (f_min 31 ((v6 - (v5 * (mI h a4 1))) + (mI h a4 2)))), some (.inl 0), some (.inl (f_max 0 ((v6 - (v5 * (mI h a4 1))) - (mI h a4 2))))] [] h Q))) : mW G kX6_drift (d + 1) b 90 [some (.inr (some 28)), some (.inr (some a1)), none, some (.inl v3), some (.inr (some a4)), some (.inl v5), some (.inl v6), none, none, none, none] [] h Q := by
  refine mw_iload (pc' := 92) dX6_drift_90 rfl rfl ?_
  refine mw_bipush (pc' := 94) (v := 32) dX6_drift_92 rfl (by decide) ?_
  refine mw_icmp_ge (pc' := 97) (tgt := 190) dX6_drift_94 rfl (by decide) (fun c1 => ?_) (fun c1 => ?_)
  · replace K := K.1 c1
    exact mw_ret dX6_drift_190 rfl K
  · replace K := K.2 c1
    refine mw_iconst (pc' := 98) (v := 0) dX6_drift_97 rfl (by decide) ?_
    refine mw_iload (pc' := 100) dX6_drift_98 rfl rfl ?_
    refine mw_iload (pc' := 102) dX6_drift_100 rfl rfl ?_
    refine mw_aload (pc' := 104) dX6_drift_102 rfl rfl ?_
    refine mw_getI (pc' := 107) dX6_drift_104 rfl flX6_48 rfl (ta4) ?_
    refine mw_imul (pc' := 108) dX6_drift_107 rfl ?_
    refine mw_isub (pc' := 109) dX6_drift_108 rfl ?_
    refine mw_aload (pc' := 111) dX6_drift_109 rfl rfl ?_
    refine mw_getI (pc' := 114) dX6_drift_111 rfl flX6_51 rfl (ta4) ?_
    refine mw_isub (pc' := 115) dX6_drift_114 rfl ?_
    refine mw_mmax (pc' := 118) dX6_drift_115 rfl lkX6_81 (Nat.le_of_ble_eq_true rfl) ?_
    refine mw_istore (pc' := 120) dX6_drift_118 rfl (by decide) ?_
    show mW _ _ _ _ _ [some (.inr (some 28)), some (.inr (some a1)), none, some (.inl v3), some (.inr (some a4)), some (.inl v5), some (.inl v6), some (.inl (f_max 0 ((v6 - (v5 * (mI h a4 1))) - (mI h a4 2)))), none, none, none] _ _ _
    refine mw_bipush (pc' := 122) (v := 31) dX6_drift_120 rfl (by decide) ?_
    refine mw_iload (pc' := 124) dX6_drift_122 rfl rfl ?_
    refine mw_iload (pc' := 126) dX6_drift_124 rfl rfl ?_
    refine mw_aload (pc' := 128) dX6_drift_126 rfl rfl ?_
    refine mw_getI (pc' := 131) dX6_drift_128 rfl flX6_48 rfl (ta4) ?_
    refine mw_imul (pc' := 132) dX6_drift_131 rfl ?_
    refine mw_isub (pc' := 133) dX6_drift_132 rfl ?_
    refine mw_aload (pc' := 135) dX6_drift_133 rfl rfl ?_
    refine mw_getI (pc' := 138) dX6_drift_135 rfl flX6_51 rfl (ta4) ?_
    refine mw_iadd (pc' := 139) dX6_drift_138 rfl ?_
    refine mw_mmin (pc' := 142) dX6_drift_139 rfl lkX6_119 (Nat.le_of_ble_eq_true rfl) ?_
    refine mw_istore (pc' := 144) dX6_drift_142 rfl (by decide) ?_
    show mW _ _ _ _ _ [some (.inr (some 28)), some (.inr (some a1)), none, some (.inl v3), some (.inr (some a4)), some (.inl v5), some (.inl v6), some (.inl (f_max 0 ((v6 - (v5 * (mI h a4 1))) - (mI h a4 2)))), some (.inl (f_min 31 ((v6 - (v5 * (mI h a4 1))) + (mI h a4 2)))), none, none] _ _ _
    refine mw_iconst (pc' := 145) (v := 0) dX6_drift_144 rfl (by decide) ?_
    refine mw_istore (pc' := 147) dX6_drift_145 rfl (by decide) ?_
    show mW _ _ _ _ _ [some (.inr (some 28)), some (.inr (some a1)), none, some (.inl v3), some (.inr (some a4)), some (.inl v5), some (.inl v6), some (.inl (f_max 0 ((v6 - (v5 * (mI h a4 1))) - (mI h a4 2)))), some (.inl (f_min 31 ((v6 - (v5 * (mI h a4 1))) + (mI h a4 2)))), some (.inl 0), none] _ _ _
    refine mw_iload (pc' := 149) dX6_drift_147 rfl rfl ?_
    refine mw_istore (pc' := 151) dX6_drift_149 rfl (by decide) ?_
    show mW _ _ _ _ _ [some (.inr (some 28)), some (.inr (some a1)), none, some (.inl v3), some (.inr (some a4)), some (.inl v5), some (.inl v6), some (.inl (f_max 0 ((v6 - (v5 * (mI h a4 1))) - (mI h a4 2)))), some (.inl (f_min 31 ((v6 - (v5 * (mI h a4 1))) + (mI h a4 2)))), some (.inl 0), some (.inl (f_max 0 ((v6 - (v5 * (mI h a4 1))) - (mI h a4 2))))] _ _ _
    refine mw_weak (ls' := [some (.inr (some 28)), some (.inr (some a1)), none, some (.inl v3), some (.inr (some a4)), some (.inl v5), some (.inl v6), none, some (.inl (f_min 31 ((v6 - (v5 * (mI h a4 1))) + (mI h a4 2)))), some (.inl 0), some (.inl (f_max 0 ((v6 - (v5 * (mI h a4 1))) - (mI h a4 2))))]) ?_ ?_
    · intro i v hv; match i, hv with
      | 0, hv => exact hv
      | 1, hv => exact hv
      | 2, hv => cases hv
      | 3, hv => exact hv
      | 4, hv => exact hv
      | 5, hv => exact hv
      | 6, hv => exact hv
      | 7, hv => cases hv
      | 8, hv => exact hv
      | 9, hv => exact hv
      | 10, hv => exact hv
      | n + 11, hv => cases hv
    exact K

set_option maxRecDepth 100000 in
set_option maxHeartbeats 4000000 in
theorem qX6_drift_151 {G : mG} {d : Nat} {b : Nat × Nat} {h : mH} {Q : Option mV → mH → Prop} (a1 : Nat) (v3 : Int32) (a4 : Nat) (v5 : Int32) (v6 : Int32) (v8 : Int32) (v9 : Int32) (v10 : Int32) (ta1 : mT h a1 = 100) (ta4 : mT h a4 = 6) (hS : mSk h)
    (K : ((v8 < v10 → vp_in (v3 + v6) (mL h a1) ∧ ∀ h2, h2 = mSI h a1 (v3 + v6).toNatClampNeg v9 → mW G kX6_drift (d + 1) b 90 [some (.inr (some 28)), some (.inr (some a1)), none, some (.inl v3), some (.inr (some a4)), some (.inl v5), some (.inl (v6 + 1)), none, none, none, none] [] h2 Q) ∧ (¬ (v8 < v10) → vp_in v10 32 ∧ mW G kX6_drift (d + 1) b 151 [some (.inr (some 28)), some (.inr (some a1)), none, some (.inl v3), some (.inr (some a4)), some (.inl v5), some (.inl v6), none, some (.inl v8), some (.inl (v9 ||| (mI h 30 v10.toNatClampNeg))), some (.inl (v10 + 1))] [] h Q))) : mW G kX6_drift (d + 1) b 151 [some (.inr (some 28)), some (.inr (some a1)), none, some (.inl v3), some (.inr (some a4)), some (.inl v5), some (.inl v6), none, some (.inl v8), some (.inl v9), some (.inl v10)] [] h Q := by
  refine mw_iload (pc' := 153) dX6_drift_151 rfl rfl ?_
  refine mw_iload (pc' := 155) dX6_drift_153 rfl rfl ?_
  refine mw_icmp_gt (pc' := 158) (tgt := 176) dX6_drift_155 rfl (by decide) (fun c4 => ?_) (fun c4 => ?_)
  · replace K := K.1 c4
    refine mw_aload_n (pc' := 177) dX6_drift_176 rfl rfl ?_
    refine mw_iload_n (pc' := 178) dX6_drift_177 rfl rfl ?_
    refine mw_iload (pc' := 180) dX6_drift_178 rfl rfl ?_
    refine mw_iadd (pc' := 181) dX6_drift_180 rfl ?_
    refine mw_iload (pc' := 183) dX6_drift_181 rfl rfl ?_
    obtain ⟨o1, K⟩ := K
    refine mw_iastK (pc' := 184) dX6_drift_183 rfl (ta1) (rfl) o1 hS (fun h2 eh2 hS => ?_)
    replace K := K h2 eh2
    have ta1 : mT h2 a1 = 100 := by rw [eh2]; exact ta1
    have ta4 : mT h2 a4 = 6 := by rw [eh2]; exact ta4
    refine mw_iinc (pc' := 187) (v := v6 + 1) dX6_drift_184 rfl (by decide) rfl rfl ?_
    show mW _ _ _ _ _ [some (.inr (some 28)), some (.inr (some a1)), none, some (.inl v3), some (.inr (some a4)), some (.inl v5), some (.inl (v6 + 1)), none, some (.inl v8), some (.inl v9), some (.inl v10)] _ _ _
    refine mw_goto (tgt := 90) dX6_drift_187 (by decide) ?_
    refine mw_weak (ls' := [some (.inr (some 28)), some (.inr (some a1)), none, some (.inl v3), some (.inr (some a4)), some (.inl v5), some (.inl (v6 + 1)), none, none, none, none]) ?_ ?_
    · intro i v hv; match i, hv with
      | 0, hv => exact hv
      | 1, hv => exact hv
      | 2, hv => cases hv
      | 3, hv => exact hv
      | 4, hv => exact hv
      | 5, hv => exact hv
      | 6, hv => exact hv
      | 7, hv => cases hv
      | 8, hv => cases hv
      | 9, hv => cases hv
      | 10, hv => cases hv
      | n + 11, hv => cases hv
    exact K
  · replace K := K.2 c4
    refine mw_iload (pc' := 160) dX6_drift_158 rfl rfl ?_
    refine mw_aload_n (pc' := 161) dX6_drift_160 rfl rfl ?_
    refine mw_getR (pc' := 164) dX6_drift_161 rfl flX6_31 rfl (skT_28 hS) ?_
    rw [skR_28_7 hS]
    refine mw_iload (pc' := 166) dX6_drift_164 rfl rfl ?_
    obtain ⟨o3, K⟩ := K
    refine mw_ialdL (pc' := 167) dX6_drift_166 rfl (skT_30 hS) (skL_30 hS) o3 ?_
    refine mw_ior (pc' := 168) dX6_drift_167 rfl ?_
    refine mw_istore (pc' := 170) dX6_drift_168 rfl (by decide) ?_
    show mW _ _ _ _ _ [some (.inr (some 28)), some (.inr (some a1)), none, some (.inl v3), some (.inr (some a4)), some (.inl v5), some (.inl v6), none, some (.inl v8), some (.inl (v9 ||| (mI h 30 v10.toNatClampNeg))), some (.inl v10)] _ _ _
    refine mw_iinc (pc' := 173) (v := v10 + 1) dX6_drift_170 rfl (by decide) rfl rfl ?_
    show mW _ _ _ _ _ [some (.inr (some 28)), some (.inr (some a1)), none, some (.inl v3), some (.inr (some a4)), some (.inl v5), some (.inl v6), none, some (.inl v8), some (.inl (v9 ||| (mI h 30 v10.toNatClampNeg))), some (.inl (v10 + 1))] _ _ _
    refine mw_goto (tgt := 151) dX6_drift_173 (by decide) ?_
    exact K

set_option maxRecDepth 100000 in
set_option maxHeartbeats 4000000 in
theorem qX6_sift {G : mG} {d : Nat} {b : Nat × Nat} {h : mH} {Q : Option mV → mH → Prop} (a1 : Nat) (a2 : Nat) (v3 : Int32) (a4 : Nat) (v5 : Int32) (ta1 : mT h a1 = 2) (ta2 : mT h a2 = 6) (ta4 : mT h a4 = 100) (hS : mSk h)
    (K : mW G kX6_sift (d + 4) b 15 [some (.inr (some 28)), some (.inr (some a1)), some (.inr (some a2)), some (.inl v3), some (.inr (some a4)), some (.inl v5), some (.inl (v5 + ((mI h 28 2) * 32))), some (.inl 0), none, none, none] [] h Q) : mC G kX6_sift (d + 4) b [.inr (some 28), .inr (some a1), .inr (some a2), .inl v3, .inr (some a4), .inl v5] h Q := by
  refine mC_in rfl (Nat.le_of_ble_eq_true rfl) ?_
  show mW _ _ _ _ _ [some (.inr (some 28)), some (.inr (some a1)), some (.inr (some a2)), some (.inl v3), some (.inr (some a4)), some (.inl v5), none, none, none, none, none] _ _ _
  refine mw_iload (pc' := 2) dX6_sift_0 rfl rfl ?_
  refine mw_aload_n (pc' := 3) dX6_sift_2 rfl rfl ?_
  refine mw_getI (pc' := 6) dX6_sift_3 rfl flX6_104 rfl (skT_28 hS) ?_
  refine mw_bipush (pc' := 8) (v := 32) dX6_sift_6 rfl (by decide) ?_
  refine mw_imul (pc' := 9) dX6_sift_8 rfl ?_
  refine mw_iadd (pc' := 10) dX6_sift_9 rfl ?_
  refine mw_istore (pc' := 12) dX6_sift_10 rfl (by decide) ?_
  show mW _ _ _ _ _ [some (.inr (some 28)), some (.inr (some a1)), some (.inr (some a2)), some (.inl v3), some (.inr (some a4)), some (.inl v5), some (.inl (v5 + ((mI h 28 2) * 32))), none, none, none, none] _ _ _
  refine mw_iconst (pc' := 13) (v := 0) dX6_sift_12 rfl (by decide) ?_
  refine mw_istore (pc' := 15) dX6_sift_13 rfl (by decide) ?_
  show mW _ _ _ _ _ [some (.inr (some 28)), some (.inr (some a1)), some (.inr (some a2)), some (.inl v3), some (.inr (some a4)), some (.inl v5), some (.inl (v5 + ((mI h 28 2) * 32))), some (.inl 0), none, none, none] _ _ _
  exact K

set_option maxRecDepth 100000 in
set_option maxHeartbeats 4000000 in
theorem qX6_sift_15 {G : mG} {d : Nat} {b : Nat × Nat} {h : mH} {Q : Option mV → mH → Prop} (a1 : Nat) (a2 : Nat) (v3 : Int32) (a4 : Nat) (v5 : Int32) (v6 : Int32) (v7 : Int32) (ta1 : mT h a1 = 2) (ta2 : mT h a2 = 6) (ta4 : mT h a4 = 100) (hS : mSk h)
    (K : ((32 ≤ v7 → Q none h) ∧ (¬ (32 ≤ v7) → vp_in (v6 + v7) (mL h a4) ∧ (((mI h a4 (v6 + v7).toNatClampNeg) = 0 → mW G kX6_sift (d + 4) b 15 [some (.inr (some 28)), some (.inr (some a1)), some (.inr (some a2)), some (.inl v3), some (.inr (some a4)), some (.inl v5), some (.inl v6), some (.inl (v7 + 1)), none, none, none] [] h Q) ∧ (¬ (mI h a4 (v6 + v7).toNatClampNeg) = 0 → vp_in v3 6 ∧ mC G kX2_holdsIn (d + 3) (0, 0) [.inr (some 11), .inr (mR h (a2 + 1) v3.toNatClampNeg), .inr (some a2), .inr (some a1), .inl v7, .inl (mI h a4 (v6 + v7).toNatClampNeg)] h (fun r h3 => ∃ x4, r = some (.inl x4) ∧ mSk h3 ∧ mT h3 a1 = 2 ∧ mT h3 a2 = 6 ∧ mT h3 a4 = 100 ∧ mW G kX6_sift (d + 4) b 65 [some (.inr (some 28)), some (.inr (some a1)), some (.inr (some a2)), some (.inl v3), some (.inr (some a4)), some (.inl v5), some (.inl v6), some (.inl v7), none, some (.inl x4), some (.inl (v6 + v7))] [] h3 Q)))))) : mW G kX6_sift (d + 4) b 15 [some (.inr (some 28)), some (.inr (some a1)), some (.inr (some a2)), some (.inl v3), some (.inr (some a4)), some (.inl v5), some (.inl v6), some (.inl v7), none, none, none] [] h Q := by
  refine mw_iload (pc' := 17) dX6_sift_15 rfl rfl ?_
  refine mw_bipush (pc' := 19) (v := 32) dX6_sift_17 rfl (by decide) ?_
  refine mw_icmp_ge (pc' := 22) (tgt := 122) dX6_sift_19 rfl (by decide) (fun c6 => ?_) (fun c6 => ?_)
  · replace K := K.1 c6
    exact mw_ret dX6_sift_122 rfl K
  · replace K := K.2 c6
    refine mw_aload (pc' := 24) dX6_sift_22 rfl rfl ?_
    refine mw_iload (pc' := 26) dX6_sift_24 rfl rfl ?_
    refine mw_iload (pc' := 28) dX6_sift_26 rfl rfl ?_
    refine mw_iadd (pc' := 29) dX6_sift_28 rfl ?_
    obtain ⟨o1, K⟩ := K
    refine mw_ialdL (pc' := 30) dX6_sift_29 rfl (ta4) (rfl) o1 ?_
    refine mw_istore (pc' := 32) dX6_sift_30 rfl (by decide) ?_
    show mW _ _ _ _ _ [some (.inr (some 28)), some (.inr (some a1)), some (.inr (some a2)), some (.inl v3), some (.inr (some a4)), some (.inl v5), some (.inl v6), some (.inl v7), some (.inl (mI h a4 (v6 + v7).toNatClampNeg)), none, none] _ _ _
    refine mw_iload (pc' := 34) dX6_sift_32 rfl rfl ?_
    refine mw_if_eq (pc' := 37) (tgt := 116) dX6_sift_34 rfl (by decide) (fun c5 => ?_) (fun c5 => ?_)
    · replace K := K.1 c5
      refine mw_iinc (pc' := 119) (v := v7 + 1) dX6_sift_116 rfl (by decide) rfl rfl ?_
      show mW _ _ _ _ _ [some (.inr (some 28)), some (.inr (some a1)), some (.inr (some a2)), some (.inl v3), some (.inr (some a4)), some (.inl v5), some (.inl v6), some (.inl (v7 + 1)), some (.inl (mI h a4 (v6 + v7).toNatClampNeg)), none, none] _ _ _
      refine mw_goto (tgt := 15) dX6_sift_119 (by decide) ?_
      refine mw_weak (ls' := [some (.inr (some 28)), some (.inr (some a1)), some (.inr (some a2)), some (.inl v3), some (.inr (some a4)), some (.inl v5), some (.inl v6), some (.inl (v7 + 1)), none, none, none]) ?_ ?_
      · intro i v hv; match i, hv with
        | 0, hv => exact hv
        | 1, hv => exact hv
        | 2, hv => exact hv
        | 3, hv => exact hv
        | 4, hv => exact hv
        | 5, hv => exact hv
        | 6, hv => exact hv
        | 7, hv => exact hv
        | 8, hv => cases hv
        | 9, hv => cases hv
        | 10, hv => cases hv
        | n + 11, hv => cases hv
      exact K
    · replace K := K.2 c5
      refine mw_aload_n (pc' := 38) dX6_sift_37 rfl rfl ?_
      refine mw_getR (pc' := 41) dX6_sift_38 rfl flX6_27 rfl (skT_28 hS) ?_
      rw [skR_28_6 hS]
      refine mw_aload_n (pc' := 42) dX6_sift_41 rfl rfl ?_
      refine mw_getR (pc' := 45) dX6_sift_42 rfl flX6_63 rfl (ta2) ?_
      rw [skBR_5_6 hS ta2]
      refine mw_iload_n (pc' := 46) dX6_sift_45 rfl rfl ?_
      obtain ⟨o2, K⟩ := K
      refine mw_aaldL (pc' := 47) dX6_sift_46 rfl (t := 2) (by decide) (skBT_5_1 hS ta2) (skBL_5_1 hS ta2) o2 ?_
      refine mw_aload_n (pc' := 48) dX6_sift_47 rfl rfl ?_
      refine mw_aload_n (pc' := 49) dX6_sift_48 rfl rfl ?_
      refine mw_iload (pc' := 51) dX6_sift_49 rfl rfl ?_
      refine mw_iload (pc' := 53) dX6_sift_51 rfl rfl ?_
      refine mw_callV (pc' := 56) (b' := (0, 0)) (b1 := b) (av := [.inr (mR h (a2 + 1) v3.toNatClampNeg), .inr (some a2), .inr (some a1), .inl v7, .inl (mI h a4 (v6 + v7).toNatClampNeg)]) (rest := []) dX6_sift_53 rfl lkX6_122 rfl rfl (Nat.le_of_ble_eq_true rfl) ⟨Nat.le_of_eq (Nat.zero_add _), Nat.le_of_eq (Nat.zero_add _)⟩ (skT_11 hS) ?_
      refine mC_mono (fun r h3 hr => ?_) K
      obtain ⟨x4, rfl, hS, ta1, ta2, ta4, K⟩ := hr
      show mW _ _ _ _ _ _ [.inl x4] _ _
      refine mw_istore (pc' := 58) dX6_sift_56 rfl (by decide) ?_
      show mW _ _ _ _ _ [some (.inr (some 28)), some (.inr (some a1)), some (.inr (some a2)), some (.inl v3), some (.inr (some a4)), some (.inl v5), some (.inl v6), some (.inl v7), some (.inl (mI h a4 (v6 + v7).toNatClampNeg)), some (.inl x4), none] _ _ _
      refine mw_iload (pc' := 60) dX6_sift_58 rfl rfl ?_
      refine mw_iload (pc' := 62) dX6_sift_60 rfl rfl ?_
      refine mw_iadd (pc' := 63) dX6_sift_62 rfl ?_
      refine mw_istore (pc' := 65) dX6_sift_63 rfl (by decide) ?_
      show mW _ _ _ _ _ [some (.inr (some 28)), some (.inr (some a1)), some (.inr (some a2)), some (.inl v3), some (.inr (some a4)), some (.inl v5), some (.inl v6), some (.inl v7), some (.inl (mI h a4 (v6 + v7).toNatClampNeg)), some (.inl x4), some (.inl (v6 + v7))] _ _ _
      refine mw_weak (ls' := [some (.inr (some 28)), some (.inr (some a1)), some (.inr (some a2)), some (.inl v3), some (.inr (some a4)), some (.inl v5), some (.inl v6), some (.inl v7), none, some (.inl x4), some (.inl (v6 + v7))]) ?_ ?_
      · intro i v hv; match i, hv with
        | 0, hv => exact hv
        | 1, hv => exact hv
        | 2, hv => exact hv
        | 3, hv => exact hv
        | 4, hv => exact hv
        | 5, hv => exact hv
        | 6, hv => exact hv
        | 7, hv => exact hv
        | 8, hv => cases hv
        | 9, hv => exact hv
        | 10, hv => exact hv
        | n + 11, hv => cases hv
      exact K

set_option maxRecDepth 100000 in
set_option maxHeartbeats 4000000 in
theorem qX6_sift_65 {G : mG} {d : Nat} {b : Nat × Nat} {h : mH} {Q : Option mV → mH → Prop} (a1 : Nat) (a2 : Nat) (v3 : Int32) (a4 : Nat) (v5 : Int32) (v6 : Int32) (v7 : Int32) (v9 : Int32) (v10 : Int32) (ta1 : mT h a1 = 2) (ta2 : mT h a2 = 6) (ta4 : mT h a4 = 100) (hS : mSk h)
    (K : ((v10 ≤ (v5 + v7) → vp_in (v5 + v7) (mL h a4) ∧ vp_in (v5 + v7) (mL h a4) ∧ ∀ h3, h3 = mSI h a4 (v5 + v7).toNatClampNeg ((mI h a4 (v5 + v7).toNatClampNeg) &&& v9) → mW G kX6_sift (d + 4) b 15 [some (.inr (some 28)), some (.inr (some a1)), some (.inr (some a2)), some (.inl v3), some (.inr (some a4)), some (.inl v5), some (.inl v6), some (.inl (v7 + 1)), none, none, none] [] h3 Q) ∧ (¬ (v10 ≤ (v5 + v7)) → vp_in v10 (mL h a4) ∧ vp_in (v10 - 32) (mL h a4) ∧ vp_in v10 (mL h a4) ∧ ∀ h7, h7 = mSI h a4 v10.toNatClampNeg (((mI h a4 v10.toNatClampNeg) &&& v9) ||| (mI h a4 (v10 - 32).toNatClampNeg)) → mW G kX6_sift (d + 4) b 65 [some (.inr (some 28)), some (.inr (some a1)), some (.inr (some a2)), some (.inl v3), some (.inr (some a4)), some (.inl v5), some (.inl v6), some (.inl v7), none, some (.inl v9), some (.inl (v10 + (-32)))] [] h7 Q))) : mW G kX6_sift (d + 4) b 65 [some (.inr (some 28)), some (.inr (some a1)), some (.inr (some a2)), some (.inl v3), some (.inr (some a4)), some (.inl v5), some (.inl v6), some (.inl v7), none, some (.inl v9), some (.inl v10)] [] h Q := by
  refine mw_iload (pc' := 67) dX6_sift_65 rfl rfl ?_
  refine mw_iload (pc' := 69) dX6_sift_67 rfl rfl ?_
  refine mw_iload (pc' := 71) dX6_sift_69 rfl rfl ?_
  refine mw_iadd (pc' := 72) dX6_sift_71 rfl ?_
  refine mw_icmp_le (pc' := 75) (tgt := 103) dX6_sift_72 rfl (by decide) (fun c8 => ?_) (fun c8 => ?_)
  · replace K := K.1 c8
    refine mw_aload (pc' := 105) dX6_sift_103 rfl rfl ?_
    refine mw_iload (pc' := 107) dX6_sift_105 rfl rfl ?_
    refine mw_iload (pc' := 109) dX6_sift_107 rfl rfl ?_
    refine mw_iadd (pc' := 110) dX6_sift_109 rfl ?_
    refine mw_dup2 (pc' := 111) dX6_sift_110 rfl ?_
    obtain ⟨o1, K⟩ := K
    refine mw_ialdL (pc' := 112) dX6_sift_111 rfl (ta4) (rfl) o1 ?_
    refine mw_iload (pc' := 114) dX6_sift_112 rfl rfl ?_
    refine mw_iand (pc' := 115) dX6_sift_114 rfl ?_
    obtain ⟨o2, K⟩ := K
    refine mw_iastK (pc' := 116) dX6_sift_115 rfl (ta4) (rfl) o2 hS (fun h3 eh3 hS => ?_)
    replace K := K h3 eh3
    have ta1 : mT h3 a1 = 2 := by rw [eh3]; exact ta1
    have ta2 : mT h3 a2 = 6 := by rw [eh3]; exact ta2
    have ta4 : mT h3 a4 = 100 := by rw [eh3]; exact ta4
    refine mw_iinc (pc' := 119) (v := v7 + 1) dX6_sift_116 rfl (by decide) rfl rfl ?_
    show mW _ _ _ _ _ [some (.inr (some 28)), some (.inr (some a1)), some (.inr (some a2)), some (.inl v3), some (.inr (some a4)), some (.inl v5), some (.inl v6), some (.inl (v7 + 1)), none, some (.inl v9), some (.inl v10)] _ _ _
    refine mw_goto (tgt := 15) dX6_sift_119 (by decide) ?_
    refine mw_weak (ls' := [some (.inr (some 28)), some (.inr (some a1)), some (.inr (some a2)), some (.inl v3), some (.inr (some a4)), some (.inl v5), some (.inl v6), some (.inl (v7 + 1)), none, none, none]) ?_ ?_
    · intro i v hv; match i, hv with
      | 0, hv => exact hv
      | 1, hv => exact hv
      | 2, hv => exact hv
      | 3, hv => exact hv
      | 4, hv => exact hv
      | 5, hv => exact hv
      | 6, hv => exact hv
      | 7, hv => exact hv
      | 8, hv => cases hv
      | 9, hv => cases hv
      | 10, hv => cases hv
      | n + 11, hv => cases hv
    exact K
  · replace K := K.2 c8
    refine mw_aload (pc' := 77) dX6_sift_75 rfl rfl ?_
    refine mw_iload (pc' := 79) dX6_sift_77 rfl rfl ?_
    refine mw_aload (pc' := 81) dX6_sift_79 rfl rfl ?_
    refine mw_iload (pc' := 83) dX6_sift_81 rfl rfl ?_
    obtain ⟨o4, K⟩ := K
    refine mw_ialdL (pc' := 84) dX6_sift_83 rfl (ta4) (rfl) o4 ?_
    refine mw_iload (pc' := 86) dX6_sift_84 rfl rfl ?_
    refine mw_iand (pc' := 87) dX6_sift_86 rfl ?_
    refine mw_aload (pc' := 89) dX6_sift_87 rfl rfl ?_
    refine mw_iload (pc' := 91) dX6_sift_89 rfl rfl ?_
    refine mw_bipush (pc' := 93) (v := 32) dX6_sift_91 rfl (by decide) ?_
    refine mw_isub (pc' := 94) dX6_sift_93 rfl ?_
    obtain ⟨o5, K⟩ := K
    refine mw_ialdL (pc' := 95) dX6_sift_94 rfl (ta4) (rfl) o5 ?_
    refine mw_ior (pc' := 96) dX6_sift_95 rfl ?_
    obtain ⟨o6, K⟩ := K
    refine mw_iastK (pc' := 97) dX6_sift_96 rfl (ta4) (rfl) o6 hS (fun h7 eh7 hS => ?_)
    replace K := K h7 eh7
    have ta1 : mT h7 a1 = 2 := by rw [eh7]; exact ta1
    have ta2 : mT h7 a2 = 6 := by rw [eh7]; exact ta2
    have ta4 : mT h7 a4 = 100 := by rw [eh7]; exact ta4
    refine mw_iinc (pc' := 100) (v := v10 + (-32)) dX6_sift_97 rfl (by decide) rfl rfl ?_
    show mW _ _ _ _ _ [some (.inr (some 28)), some (.inr (some a1)), some (.inr (some a2)), some (.inl v3), some (.inr (some a4)), some (.inl v5), some (.inl v6), some (.inl v7), none, some (.inl v9), some (.inl (v10 + (-32)))] _ _ _
    refine mw_goto (tgt := 65) dX6_sift_100 (by decide) ?_
    exact K

set_option maxRecDepth 100000 in
set_option maxHeartbeats 4000000 in
theorem qX6_badLine {G : mG} {d : Nat} {b : Nat × Nat} {h : mH} {Q : Option mV → mH → Prop} (a1 : Nat) (ta1 : mT h a1 = 2) (hS : mSk h)
    (K : mW G kX6_badLine (d + 2) b 2 [some (.inr (some 28)), some (.inr (some a1)), some (.inl 0)] [] h Q) : mC G kX6_badLine (d + 2) b [.inr (some 28), .inr (some a1)] h Q := by
  refine mC_in rfl (Nat.le_of_ble_eq_true rfl) ?_
  show mW _ _ _ _ _ [some (.inr (some 28)), some (.inr (some a1)), none] _ _ _
  refine mw_iconst (pc' := 1) (v := 0) dX6_badLine_0 rfl (by decide) ?_
  refine mw_istore_n (pc' := 2) dX6_badLine_1 rfl (by decide) ?_
  show mW _ _ _ _ _ [some (.inr (some 28)), some (.inr (some a1)), some (.inl 0)] _ _ _
  exact K

set_option maxRecDepth 100000 in
set_option maxHeartbeats 4000000 in
theorem qX6_badLine_2 {G : mG} {d : Nat} {b : Nat × Nat} {h : mH} {Q : Option mV → mH → Prop} (a1 : Nat) (v2 : Int32) (ta1 : mT h a1 = 2) (hS : mSk h)
    (K : (((mI h 28 1) ≤ v2 → Q (some (.inl (-1))) h) ∧ (¬ ((mI h 28 1) ≤ v2) → mC G kX1_rowsAt (d + 1) (0, 0) [.inr (some a1), .inl v2, .inl (mI h 28 2)] h (fun r h1 => ∃ x2, r = some (.inl x2) ∧ mSk h1 ∧ mT h1 a1 = 2 ∧ mC G kX11_bitsIn (d + 1) (0, 0) [.inr (some (a1 + 5)), .inl x2] h1 (fun r h3 => ∃ x4, r = some (.inl x4) ∧ mSk h3 ∧ mT h3 a1 = 2 ∧ ((¬ x4 = 0 → mW G kX6_badLine (d + 2) b 2 [some (.inr (some 28)), some (.inr (some a1)), some (.inl (v2 + 1))] [] h3 Q) ∧ (x4 = 0 → Q (some (.inl v2)) h3))))))) : mW G kX6_badLine (d + 2) b 2 [some (.inr (some 28)), some (.inr (some a1)), some (.inl v2)] [] h Q := by
  refine mw_iload_n (pc' := 3) dX6_badLine_2 rfl rfl ?_
  refine mw_aload_n (pc' := 4) dX6_badLine_3 rfl rfl ?_
  refine mw_getI (pc' := 7) dX6_badLine_4 rfl flX6_41 rfl (skT_28 hS) ?_
  refine mw_icmp_ge (pc' := 10) (tgt := 37) dX6_badLine_7 rfl (by decide) (fun c6 => ?_) (fun c6 => ?_)
  · replace K := K.1 c6
    refine mw_iconst (pc' := 38) (v := (-1)) dX6_badLine_37 rfl (by decide) ?_
    exact mw_iret dX6_badLine_38 rfl rfl K
  · replace K := K.2 c6
    refine mw_aload_n (pc' := 11) dX6_badLine_10 rfl rfl ?_
    refine mw_getR (pc' := 14) dX6_badLine_11 rfl flX6_94 rfl (ta1) ?_
    rw [skBR_1_9 hS ta1]
    refine mw_aload_n (pc' := 15) dX6_badLine_14 rfl rfl ?_
    refine mw_iload_n (pc' := 16) dX6_badLine_15 rfl rfl ?_
    refine mw_aload_n (pc' := 17) dX6_badLine_16 rfl rfl ?_
    refine mw_getI (pc' := 20) dX6_badLine_17 rfl flX6_104 rfl (skT_28 hS) ?_
    refine mw_callV (pc' := 23) (b' := (0, 0)) (b1 := b) (av := [.inl v2, .inl (mI h 28 2)]) (rest := [.inr (some (a1 + 5))]) dX6_badLine_20 rfl lkX6_97 rfl rfl (Nat.le_of_ble_eq_true rfl) ⟨Nat.le_of_eq (Nat.zero_add _), Nat.le_of_eq (Nat.zero_add _)⟩ (ta1) ?_
    refine mC_mono (fun r h1 hr => ?_) K
    obtain ⟨x2, rfl, hS, ta1, K⟩ := hr
    show mW _ _ _ _ _ _ [.inl x2, .inr (some (a1 + 5))] _ _
    refine mw_callS (pc' := 26) (b' := (0, 0)) (b1 := b) (av := [.inr (some (a1 + 5)), .inl x2]) (rest := []) dX6_badLine_23 rfl lkX6_126 rfl rfl (Nat.le_of_ble_eq_true rfl) ⟨Nat.le_of_eq (Nat.zero_add _), Nat.le_of_eq (Nat.zero_add _)⟩ ?_
    refine mC_mono (fun r h3 hr => ?_) K
    obtain ⟨x4, rfl, hS, ta1, K⟩ := hr
    show mW _ _ _ _ _ _ [.inl x4] _ _
    refine mw_if_ne (pc' := 29) (tgt := 31) dX6_badLine_26 rfl (by decide) (fun c5 => ?_) (fun c5 => ?_)
    · replace K := K.1 c5
      refine mw_iinc (pc' := 34) (v := v2 + 1) dX6_badLine_31 rfl (by decide) rfl rfl ?_
      show mW _ _ _ _ _ [some (.inr (some 28)), some (.inr (some a1)), some (.inl (v2 + 1))] _ _ _
      refine mw_goto (tgt := 2) dX6_badLine_34 (by decide) ?_
      exact K
    · replace K := K.2 c5
      refine mw_iload_n (pc' := 30) dX6_badLine_29 rfl rfl ?_
      exact mw_iret dX6_badLine_30 rfl rfl K

set_option maxRecDepth 100000 in
set_option maxHeartbeats 4000000 in
theorem qX6_placesAt {G : mG} {d : Nat} {b : Nat × Nat} {h : mH} {Q : Option mV → mH → Prop} (a1 : Nat) (v2 : Int32) (v3 : Int32) (ta1 : mT h a1 = 2) (hS : mSk h)
    (K : ((¬ (mI h 28 10) = (mI h a1 0) → ∀ h1, h1 = mSI h 28 10 (mI h a1 0) → ∀ h2, h2 = mSI h1 28 11 v2 → ∀ h3, h3 = mSI h2 28 12 v3 → mC G kX6_follow (d + 5) (0, 0) [.inr (some 28), .inr (some a1)] h3 (fun r h4 => r = none ∧ mSk h4 ∧ mT h4 a1 = 2 ∧ mC G kX6_goBackTo (d + 5) (0, 0) [.inr (some 28), .inr (some a1), .inl v2] h4 (fun r h5 => r = none ∧ mSk h5 ∧ mT h5 a1 = 2 ∧ mW G kX6_placesAt (d + 6) b 59 [some (.inr (some 28)), some (.inr (some a1)), some (.inl v2), none, some (.inl 0), none, none] [] h5 Q))) ∧ ((mI h 28 10) = (mI h a1 0) → ((¬ (mI h 28 11) = v2 → ∀ h6, h6 = mSI h 28 10 (mI h a1 0) → ∀ h7, h7 = mSI h6 28 11 v2 → ∀ h8, h8 = mSI h7 28 12 v3 → mC G kX6_follow (d + 5) (0, 0) [.inr (some 28), .inr (some a1)] h8 (fun r h9 => r = none ∧ mSk h9 ∧ mT h9 a1 = 2 ∧ mC G kX6_goBackTo (d + 5) (0, 0) [.inr (some 28), .inr (some a1), .inl v2] h9 (fun r h10 => r = none ∧ mSk h10 ∧ mT h10 a1 = 2 ∧ mW G kX6_placesAt (d + 6) b 59 [some (.inr (some 28)), some (.inr (some a1)), some (.inl v2), none, some (.inl 0), none, none] [] h10 Q))) ∧ ((mI h 28 11) = v2 → (((mI h 28 12) = v3 → Q (some (.inr (some 32))) h) ∧ (¬ (mI h 28 12) = v3 → ∀ h11, h11 = mSI h 28 10 (mI h a1 0) → ∀ h12, h12 = mSI h11 28 11 v2 → ∀ h13, h13 = mSI h12 28 12 v3 → mC G kX6_follow (d + 5) (0, 0) [.inr (some 28), .inr (some a1)] h13 (fun r h14 => r = none ∧ mSk h14 ∧ mT h14 a1 = 2 ∧ mC G kX6_goBackTo (d + 5) (0, 0) [.inr (some 28), .inr (some a1), .inl v2] h14 (fun r h15 => r = none ∧ mSk h15 ∧ mT h15 a1 = 2 ∧ mW G kX6_placesAt (d + 6) b 59 [some (.inr (some 28)), some (.inr (some a1)), some (.inl v2), none, some (.inl 0), none, none] [] h15 Q))))))))) : mC G kX6_placesAt (d + 6) b [.inr (some 28), .inr (some a1), .inl v2, .inl v3] h Q := by
  refine mC_in rfl (Nat.le_of_ble_eq_true rfl) ?_
  show mW _ _ _ _ _ [some (.inr (some 28)), some (.inr (some a1)), some (.inl v2), some (.inl v3), none, none, none] _ _ _
  refine mw_aload_n (pc' := 1) dX6_placesAt_0 rfl rfl ?_
  refine mw_getI (pc' := 4) dX6_placesAt_1 rfl flX6_130 rfl (skT_28 hS) ?_
  refine mw_aload_n (pc' := 5) dX6_placesAt_4 rfl rfl ?_
  refine mw_getI (pc' := 8) dX6_placesAt_5 rfl flX6_133 rfl (ta1) ?_
  refine mw_icmp_ne (pc' := 11) (tgt := 27) dX6_placesAt_8 rfl (by decide) (fun c18 => ?_) (fun c18 => ?_)
  · replace K := K.1 c18
    refine mw_aload_n (pc' := 28) dX6_placesAt_27 rfl rfl ?_
    refine mw_aload_n (pc' := 29) dX6_placesAt_28 rfl rfl ?_
    refine mw_getI (pc' := 32) dX6_placesAt_29 rfl flX6_133 rfl (ta1) ?_
    refine mw_putIK (pc' := 35) dX6_placesAt_32 rfl flX6_130 rfl (Or.inl rfl) ⟨rfl, rfl⟩ (skT_28 hS) hS (fun h1 eh1 hS => ?_)
    replace K := K h1 eh1
    have ta1 : mT h1 a1 = 2 := by rw [eh1]; exact ta1
    refine mw_aload_n (pc' := 36) dX6_placesAt_35 rfl rfl ?_
    refine mw_iload_n (pc' := 37) dX6_placesAt_36 rfl rfl ?_
    refine mw_putIK (pc' := 40) dX6_placesAt_37 rfl flX6_136 rfl (Or.inl rfl) ⟨rfl, rfl⟩ (skT_28 hS) hS (fun h2 eh2 hS => ?_)
    replace K := K h2 eh2
    have ta1 : mT h2 a1 = 2 := by rw [eh2]; exact ta1
    refine mw_aload_n (pc' := 41) dX6_placesAt_40 rfl rfl ?_
    refine mw_iload_n (pc' := 42) dX6_placesAt_41 rfl rfl ?_
    refine mw_putIK (pc' := 45) dX6_placesAt_42 rfl flX6_139 rfl (Or.inl rfl) ⟨rfl, rfl⟩ (skT_28 hS) hS (fun h3 eh3 hS => ?_)
    replace K := K h3 eh3
    have ta1 : mT h3 a1 = 2 := by rw [eh3]; exact ta1
    refine mw_aload_n (pc' := 46) dX6_placesAt_45 rfl rfl ?_
    refine mw_aload_n (pc' := 47) dX6_placesAt_46 rfl rfl ?_
    refine mw_callV (pc' := 50) (b' := (0, 0)) (b1 := b) (av := [.inr (some a1)]) (rest := []) dX6_placesAt_47 rfl lkX6_142 rfl rfl (Nat.le_of_ble_eq_true rfl) ⟨Nat.le_of_eq (Nat.zero_add _), Nat.le_of_eq (Nat.zero_add _)⟩ (skT_28 hS) ?_
    refine mC_mono (fun r h4 hr => ?_) K
    obtain ⟨rfl, hS, ta1, K⟩ := hr
    show mW _ _ _ _ _ _ [] _ _
    refine mw_aload_n (pc' := 51) dX6_placesAt_50 rfl rfl ?_
    refine mw_aload_n (pc' := 52) dX6_placesAt_51 rfl rfl ?_
    refine mw_iload_n (pc' := 53) dX6_placesAt_52 rfl rfl ?_
    refine mw_callV (pc' := 56) (b' := (0, 0)) (b1 := b) (av := [.inr (some a1), .inl v2]) (rest := []) dX6_placesAt_53 rfl lkX6_146 rfl rfl (Nat.le_of_ble_eq_true rfl) ⟨Nat.le_of_eq (Nat.zero_add _), Nat.le_of_eq (Nat.zero_add _)⟩ (skT_28 hS) ?_
    refine mC_mono (fun r h5 hr => ?_) K
    obtain ⟨rfl, hS, ta1, K⟩ := hr
    show mW _ _ _ _ _ _ [] _ _
    refine mw_iconst (pc' := 57) (v := 0) dX6_placesAt_56 rfl (by decide) ?_
    refine mw_istore (pc' := 59) dX6_placesAt_57 rfl (by decide) ?_
    show mW _ _ _ _ _ [some (.inr (some 28)), some (.inr (some a1)), some (.inl v2), some (.inl v3), some (.inl 0), none, none] _ _ _
    refine mw_weak (ls' := [some (.inr (some 28)), some (.inr (some a1)), some (.inl v2), none, some (.inl 0), none, none]) ?_ ?_
    · intro i v hv; match i, hv with
      | 0, hv => exact hv
      | 1, hv => exact hv
      | 2, hv => exact hv
      | 3, hv => cases hv
      | 4, hv => exact hv
      | 5, hv => cases hv
      | 6, hv => cases hv
      | n + 7, hv => cases hv
    exact K
  · replace K := K.2 c18
    refine mw_aload_n (pc' := 12) dX6_placesAt_11 rfl rfl ?_
    refine mw_getI (pc' := 15) dX6_placesAt_12 rfl flX6_136 rfl (skT_28 hS) ?_
    refine mw_iload_n (pc' := 16) dX6_placesAt_15 rfl rfl ?_
    refine mw_icmp_ne (pc' := 19) (tgt := 27) dX6_placesAt_16 rfl (by decide) (fun c17 => ?_) (fun c17 => ?_)
    · replace K := K.1 c17
      refine mw_aload_n (pc' := 28) dX6_placesAt_27 rfl rfl ?_
      refine mw_aload_n (pc' := 29) dX6_placesAt_28 rfl rfl ?_
      refine mw_getI (pc' := 32) dX6_placesAt_29 rfl flX6_133 rfl (ta1) ?_
      refine mw_putIK (pc' := 35) dX6_placesAt_32 rfl flX6_130 rfl (Or.inl rfl) ⟨rfl, rfl⟩ (skT_28 hS) hS (fun h6 eh6 hS => ?_)
      replace K := K h6 eh6
      have ta1 : mT h6 a1 = 2 := by rw [eh6]; exact ta1
      refine mw_aload_n (pc' := 36) dX6_placesAt_35 rfl rfl ?_
      refine mw_iload_n (pc' := 37) dX6_placesAt_36 rfl rfl ?_
      refine mw_putIK (pc' := 40) dX6_placesAt_37 rfl flX6_136 rfl (Or.inl rfl) ⟨rfl, rfl⟩ (skT_28 hS) hS (fun h7 eh7 hS => ?_)
      replace K := K h7 eh7
      have ta1 : mT h7 a1 = 2 := by rw [eh7]; exact ta1
      refine mw_aload_n (pc' := 41) dX6_placesAt_40 rfl rfl ?_
      refine mw_iload_n (pc' := 42) dX6_placesAt_41 rfl rfl ?_
      refine mw_putIK (pc' := 45) dX6_placesAt_42 rfl flX6_139 rfl (Or.inl rfl) ⟨rfl, rfl⟩ (skT_28 hS) hS (fun h8 eh8 hS => ?_)
      replace K := K h8 eh8
      have ta1 : mT h8 a1 = 2 := by rw [eh8]; exact ta1
      refine mw_aload_n (pc' := 46) dX6_placesAt_45 rfl rfl ?_
      refine mw_aload_n (pc' := 47) dX6_placesAt_46 rfl rfl ?_
      refine mw_callV (pc' := 50) (b' := (0, 0)) (b1 := b) (av := [.inr (some a1)]) (rest := []) dX6_placesAt_47 rfl lkX6_142 rfl rfl (Nat.le_of_ble_eq_true rfl) ⟨Nat.le_of_eq (Nat.zero_add _), Nat.le_of_eq (Nat.zero_add _)⟩ (skT_28 hS) ?_
      refine mC_mono (fun r h9 hr => ?_) K
      obtain ⟨rfl, hS, ta1, K⟩ := hr
      show mW _ _ _ _ _ _ [] _ _
      refine mw_aload_n (pc' := 51) dX6_placesAt_50 rfl rfl ?_
      refine mw_aload_n (pc' := 52) dX6_placesAt_51 rfl rfl ?_
      refine mw_iload_n (pc' := 53) dX6_placesAt_52 rfl rfl ?_
      refine mw_callV (pc' := 56) (b' := (0, 0)) (b1 := b) (av := [.inr (some a1), .inl v2]) (rest := []) dX6_placesAt_53 rfl lkX6_146 rfl rfl (Nat.le_of_ble_eq_true rfl) ⟨Nat.le_of_eq (Nat.zero_add _), Nat.le_of_eq (Nat.zero_add _)⟩ (skT_28 hS) ?_
      refine mC_mono (fun r h10 hr => ?_) K
      obtain ⟨rfl, hS, ta1, K⟩ := hr
      show mW _ _ _ _ _ _ [] _ _
      refine mw_iconst (pc' := 57) (v := 0) dX6_placesAt_56 rfl (by decide) ?_
      refine mw_istore (pc' := 59) dX6_placesAt_57 rfl (by decide) ?_
      show mW _ _ _ _ _ [some (.inr (some 28)), some (.inr (some a1)), some (.inl v2), some (.inl v3), some (.inl 0), none, none] _ _ _
      refine mw_weak (ls' := [some (.inr (some 28)), some (.inr (some a1)), some (.inl v2), none, some (.inl 0), none, none]) ?_ ?_
      · intro i v hv; match i, hv with
        | 0, hv => exact hv
        | 1, hv => exact hv
        | 2, hv => exact hv
        | 3, hv => cases hv
        | 4, hv => exact hv
        | 5, hv => cases hv
        | 6, hv => cases hv
        | n + 7, hv => cases hv
      exact K
    · replace K := K.2 c17
      refine mw_aload_n (pc' := 20) dX6_placesAt_19 rfl rfl ?_
      refine mw_getI (pc' := 23) dX6_placesAt_20 rfl flX6_139 rfl (skT_28 hS) ?_
      refine mw_iload_n (pc' := 24) dX6_placesAt_23 rfl rfl ?_
      refine mw_icmp_eq (pc' := 27) (tgt := 146) dX6_placesAt_24 rfl (by decide) (fun c16 => ?_) (fun c16 => ?_)
      · replace K := K.1 c16
        refine mw_aload_n (pc' := 147) dX6_placesAt_146 rfl rfl ?_
        refine mw_getR (pc' := 150) dX6_placesAt_147 rfl flX6_38 rfl (skT_28 hS) ?_
        rw [skR_28_9 hS]
        exact mw_aret dX6_placesAt_150 rfl (by first | exact Or.inl ⟨_, rfl⟩ | exact Or.inr ⟨_, rfl⟩) K
      · replace K := K.2 c16
        refine mw_aload_n (pc' := 28) dX6_placesAt_27 rfl rfl ?_
        refine mw_aload_n (pc' := 29) dX6_placesAt_28 rfl rfl ?_
        refine mw_getI (pc' := 32) dX6_placesAt_29 rfl flX6_133 rfl (ta1) ?_
        refine mw_putIK (pc' := 35) dX6_placesAt_32 rfl flX6_130 rfl (Or.inl rfl) ⟨rfl, rfl⟩ (skT_28 hS) hS (fun h11 eh11 hS => ?_)
        replace K := K h11 eh11
        have ta1 : mT h11 a1 = 2 := by rw [eh11]; exact ta1
        refine mw_aload_n (pc' := 36) dX6_placesAt_35 rfl rfl ?_
        refine mw_iload_n (pc' := 37) dX6_placesAt_36 rfl rfl ?_
        refine mw_putIK (pc' := 40) dX6_placesAt_37 rfl flX6_136 rfl (Or.inl rfl) ⟨rfl, rfl⟩ (skT_28 hS) hS (fun h12 eh12 hS => ?_)
        replace K := K h12 eh12
        have ta1 : mT h12 a1 = 2 := by rw [eh12]; exact ta1
        refine mw_aload_n (pc' := 41) dX6_placesAt_40 rfl rfl ?_
        refine mw_iload_n (pc' := 42) dX6_placesAt_41 rfl rfl ?_
        refine mw_putIK (pc' := 45) dX6_placesAt_42 rfl flX6_139 rfl (Or.inl rfl) ⟨rfl, rfl⟩ (skT_28 hS) hS (fun h13 eh13 hS => ?_)
        replace K := K h13 eh13
        have ta1 : mT h13 a1 = 2 := by rw [eh13]; exact ta1
        refine mw_aload_n (pc' := 46) dX6_placesAt_45 rfl rfl ?_
        refine mw_aload_n (pc' := 47) dX6_placesAt_46 rfl rfl ?_
        refine mw_callV (pc' := 50) (b' := (0, 0)) (b1 := b) (av := [.inr (some a1)]) (rest := []) dX6_placesAt_47 rfl lkX6_142 rfl rfl (Nat.le_of_ble_eq_true rfl) ⟨Nat.le_of_eq (Nat.zero_add _), Nat.le_of_eq (Nat.zero_add _)⟩ (skT_28 hS) ?_
        refine mC_mono (fun r h14 hr => ?_) K
        obtain ⟨rfl, hS, ta1, K⟩ := hr
        show mW _ _ _ _ _ _ [] _ _
        refine mw_aload_n (pc' := 51) dX6_placesAt_50 rfl rfl ?_
        refine mw_aload_n (pc' := 52) dX6_placesAt_51 rfl rfl ?_
        refine mw_iload_n (pc' := 53) dX6_placesAt_52 rfl rfl ?_
        refine mw_callV (pc' := 56) (b' := (0, 0)) (b1 := b) (av := [.inr (some a1), .inl v2]) (rest := []) dX6_placesAt_53 rfl lkX6_146 rfl rfl (Nat.le_of_ble_eq_true rfl) ⟨Nat.le_of_eq (Nat.zero_add _), Nat.le_of_eq (Nat.zero_add _)⟩ (skT_28 hS) ?_
        refine mC_mono (fun r h15 hr => ?_) K
        obtain ⟨rfl, hS, ta1, K⟩ := hr
        show mW _ _ _ _ _ _ [] _ _
        refine mw_iconst (pc' := 57) (v := 0) dX6_placesAt_56 rfl (by decide) ?_
        refine mw_istore (pc' := 59) dX6_placesAt_57 rfl (by decide) ?_
        show mW _ _ _ _ _ [some (.inr (some 28)), some (.inr (some a1)), some (.inl v2), some (.inl v3), some (.inl 0), none, none] _ _ _
        refine mw_weak (ls' := [some (.inr (some 28)), some (.inr (some a1)), some (.inl v2), none, some (.inl 0), none, none]) ?_ ?_
        · intro i v hv; match i, hv with
          | 0, hv => exact hv
          | 1, hv => exact hv
          | 2, hv => exact hv
          | 3, hv => cases hv
          | 4, hv => exact hv
          | 5, hv => cases hv
          | 6, hv => cases hv
          | n + 7, hv => cases hv
        exact K

set_option maxRecDepth 100000 in
set_option maxHeartbeats 4000000 in
theorem qX6_placesAt_59 {G : mG} {d : Nat} {b : Nat × Nat} {h : mH} {Q : Option mV → mH → Prop} (a1 : Nat) (v2 : Int32) (v4 : Int32) (ta1 : mT h a1 = 2) (hS : mSk h)
    (K : ((32 ≤ v4 → Q (some (.inr (some 32))) h) ∧ (¬ (32 ≤ v4) → vp_in v4 32 ∧ ∀ h2, h2 = mSI h 32 v4.toNatClampNeg 0 → mW G kX6_placesAt (d + 6) b 77 [some (.inr (some 28)), some (.inr (some a1)), some (.inl v2), none, some (.inl v4), some (.inl 0), none] [] h2 Q))) : mW G kX6_placesAt (d + 6) b 59 [some (.inr (some 28)), some (.inr (some a1)), some (.inl v2), none, some (.inl v4), none, none] [] h Q := by
  refine mw_iload (pc' := 61) dX6_placesAt_59 rfl rfl ?_
  refine mw_bipush (pc' := 63) (v := 32) dX6_placesAt_61 rfl (by decide) ?_
  refine mw_icmp_ge (pc' := 66) (tgt := 146) dX6_placesAt_63 rfl (by decide) (fun c3 => ?_) (fun c3 => ?_)
  · replace K := K.1 c3
    refine mw_aload_n (pc' := 147) dX6_placesAt_146 rfl rfl ?_
    refine mw_getR (pc' := 150) dX6_placesAt_147 rfl flX6_38 rfl (skT_28 hS) ?_
    rw [skR_28_9 hS]
    exact mw_aret dX6_placesAt_150 rfl (by first | exact Or.inl ⟨_, rfl⟩ | exact Or.inr ⟨_, rfl⟩) K
  · replace K := K.2 c3
    refine mw_aload_n (pc' := 67) dX6_placesAt_66 rfl rfl ?_
    refine mw_getR (pc' := 70) dX6_placesAt_67 rfl flX6_38 rfl (skT_28 hS) ?_
    rw [skR_28_9 hS]
    refine mw_iload (pc' := 72) dX6_placesAt_70 rfl rfl ?_
    refine mw_iconst (pc' := 73) (v := 0) dX6_placesAt_72 rfl (by decide) ?_
    obtain ⟨o1, K⟩ := K
    refine mw_iastK (pc' := 74) dX6_placesAt_73 rfl (skT_32 hS) (skL_32 hS) o1 hS (fun h2 eh2 hS => ?_)
    replace K := K h2 eh2
    have ta1 : mT h2 a1 = 2 := by rw [eh2]; exact ta1
    refine mw_iconst (pc' := 75) (v := 0) dX6_placesAt_74 rfl (by decide) ?_
    refine mw_istore (pc' := 77) dX6_placesAt_75 rfl (by decide) ?_
    show mW _ _ _ _ _ [some (.inr (some 28)), some (.inr (some a1)), some (.inl v2), none, some (.inl v4), some (.inl 0), none] _ _ _
    exact K

set_option maxRecDepth 100000 in
set_option maxHeartbeats 4000000 in
theorem qX6_placesAt_77 {G : mG} {d : Nat} {b : Nat × Nat} {h : mH} {Q : Option mV → mH → Prop} (a1 : Nat) (v2 : Int32) (v4 : Int32) (v5 : Int32) (ta1 : mT h a1 = 2) (hS : mSk h)
    (K : (((mI h 28 2) < v5 → mW G kX6_placesAt (d + 6) b 59 [some (.inr (some 28)), some (.inr (some a1)), some (.inl v2), none, some (.inl (v4 + 1)), none, none] [] h Q) ∧ (¬ ((mI h 28 2) < v5) → mC G kX1_rowsAt (d + 5) (0, 0) [.inr (some a1), .inl v2, .inl v5] h (fun r h1 => ∃ x2, r = some (.inl x2) ∧ mSk h1 ∧ mT h1 a1 = 2 ∧ vp_in (x2 + v4) 1536 ∧ vp_in v4 32 ∧ vp_in ((((mI h1 28 2) - v5) * 32) + v4) 128 ∧ vp_in v4 32 ∧ ∀ h7, h7 = mSI h1 32 v4.toNatClampNeg ((mI h1 32 v4.toNatClampNeg) ||| ((mI h1 (a1 + 5) (x2 + v4).toNatClampNeg) &&& (mI h1 31 ((((mI h1 28 2) - v5) * 32) + v4).toNatClampNeg))) → mW G kX6_placesAt (d + 6) b 77 [some (.inr (some 28)), some (.inr (some a1)), some (.inl v2), none, some (.inl v4), some (.inl (v5 + 1)), none] [] h7 Q)))) : mW G kX6_placesAt (d + 6) b 77 [some (.inr (some 28)), some (.inr (some a1)), some (.inl v2), none, some (.inl v4), some (.inl v5), none] [] h Q := by
  refine mw_iload (pc' := 79) dX6_placesAt_77 rfl rfl ?_
  refine mw_aload_n (pc' := 80) dX6_placesAt_79 rfl rfl ?_
  refine mw_getI (pc' := 83) dX6_placesAt_80 rfl flX6_104 rfl (skT_28 hS) ?_
  refine mw_icmp_gt (pc' := 86) (tgt := 140) dX6_placesAt_83 rfl (by decide) (fun c8 => ?_) (fun c8 => ?_)
  · replace K := K.1 c8
    refine mw_iinc (pc' := 143) (v := v4 + 1) dX6_placesAt_140 rfl (by decide) rfl rfl ?_
    show mW _ _ _ _ _ [some (.inr (some 28)), some (.inr (some a1)), some (.inl v2), none, some (.inl (v4 + 1)), some (.inl v5), none] _ _ _
    refine mw_goto (tgt := 59) dX6_placesAt_143 (by decide) ?_
    refine mw_weak (ls' := [some (.inr (some 28)), some (.inr (some a1)), some (.inl v2), none, some (.inl (v4 + 1)), none, none]) ?_ ?_
    · intro i v hv; match i, hv with
      | 0, hv => exact hv
      | 1, hv => exact hv
      | 2, hv => exact hv
      | 3, hv => cases hv
      | 4, hv => exact hv
      | 5, hv => cases hv
      | 6, hv => cases hv
      | n + 7, hv => cases hv
    exact K
  · replace K := K.2 c8
    refine mw_aload_n (pc' := 87) dX6_placesAt_86 rfl rfl ?_
    refine mw_getR (pc' := 90) dX6_placesAt_87 rfl flX6_94 rfl (ta1) ?_
    rw [skBR_1_9 hS ta1]
    refine mw_aload_n (pc' := 91) dX6_placesAt_90 rfl rfl ?_
    refine mw_iload_n (pc' := 92) dX6_placesAt_91 rfl rfl ?_
    refine mw_iload (pc' := 94) dX6_placesAt_92 rfl rfl ?_
    refine mw_callV (pc' := 97) (b' := (0, 0)) (b1 := b) (av := [.inl v2, .inl v5]) (rest := [.inr (some (a1 + 5))]) dX6_placesAt_94 rfl lkX6_97 rfl rfl (Nat.le_of_ble_eq_true rfl) ⟨Nat.le_of_eq (Nat.zero_add _), Nat.le_of_eq (Nat.zero_add _)⟩ (ta1) ?_
    refine mC_mono (fun r h1 hr => ?_) K
    obtain ⟨x2, rfl, hS, ta1, K⟩ := hr
    show mW _ _ _ _ _ _ [.inl x2, .inr (some (a1 + 5))] _ _
    refine mw_iload (pc' := 99) dX6_placesAt_97 rfl rfl ?_
    refine mw_iadd (pc' := 100) dX6_placesAt_99 rfl ?_
    obtain ⟨o3, K⟩ := K
    refine mw_ialdL (pc' := 101) dX6_placesAt_100 rfl (skBT_1_5 hS ta1) (skBL_1_5 hS ta1) o3 ?_
    refine mw_istore (pc' := 103) dX6_placesAt_101 rfl (by decide) ?_
    show mW _ _ _ _ _ [some (.inr (some 28)), some (.inr (some a1)), some (.inl v2), none, some (.inl v4), some (.inl v5), some (.inl (mI h1 (a1 + 5) (x2 + v4).toNatClampNeg))] _ _ _
    refine mw_aload_n (pc' := 104) dX6_placesAt_103 rfl rfl ?_
    refine mw_getR (pc' := 107) dX6_placesAt_104 rfl flX6_38 rfl (skT_28 hS) ?_
    rw [skR_28_9 hS]
    refine mw_iload (pc' := 109) dX6_placesAt_107 rfl rfl ?_
    refine mw_dup2 (pc' := 110) dX6_placesAt_109 rfl ?_
    obtain ⟨o4, K⟩ := K
    refine mw_ialdL (pc' := 111) dX6_placesAt_110 rfl (skT_32 hS) (skL_32 hS) o4 ?_
    refine mw_iload (pc' := 113) dX6_placesAt_111 rfl rfl ?_
    refine mw_aload_n (pc' := 114) dX6_placesAt_113 rfl rfl ?_
    refine mw_getR (pc' := 117) dX6_placesAt_114 rfl flX6_35 rfl (skT_28 hS) ?_
    rw [skR_28_8 hS]
    refine mw_aload_n (pc' := 118) dX6_placesAt_117 rfl rfl ?_
    refine mw_getI (pc' := 121) dX6_placesAt_118 rfl flX6_104 rfl (skT_28 hS) ?_
    refine mw_iload (pc' := 123) dX6_placesAt_121 rfl rfl ?_
    refine mw_isub (pc' := 124) dX6_placesAt_123 rfl ?_
    refine mw_bipush (pc' := 126) (v := 32) dX6_placesAt_124 rfl (by decide) ?_
    refine mw_imul (pc' := 127) dX6_placesAt_126 rfl ?_
    refine mw_iload (pc' := 129) dX6_placesAt_127 rfl rfl ?_
    refine mw_iadd (pc' := 130) dX6_placesAt_129 rfl ?_
    obtain ⟨o5, K⟩ := K
    refine mw_ialdL (pc' := 131) dX6_placesAt_130 rfl (skT_31 hS) (skL_31 hS) o5 ?_
    refine mw_iand (pc' := 132) dX6_placesAt_131 rfl ?_
    refine mw_ior (pc' := 133) dX6_placesAt_132 rfl ?_
    obtain ⟨o6, K⟩ := K
    refine mw_iastK (pc' := 134) dX6_placesAt_133 rfl (skT_32 hS) (skL_32 hS) o6 hS (fun h7 eh7 hS => ?_)
    replace K := K h7 eh7
    have ta1 : mT h7 a1 = 2 := by rw [eh7]; exact ta1
    refine mw_iinc (pc' := 137) (v := v5 + 1) dX6_placesAt_134 rfl (by decide) rfl rfl ?_
    show mW _ _ _ _ _ [some (.inr (some 28)), some (.inr (some a1)), some (.inl v2), none, some (.inl v4), some (.inl (v5 + 1)), some (.inl (mI h1 (a1 + 5) (x2 + v4).toNatClampNeg))] _ _ _
    refine mw_goto (tgt := 77) dX6_placesAt_137 (by decide) ?_
    refine mw_weak (ls' := [some (.inr (some 28)), some (.inr (some a1)), some (.inl v2), none, some (.inl v4), some (.inl (v5 + 1)), none]) ?_ ?_
    · intro i v hv; match i, hv with
      | 0, hv => exact hv
      | 1, hv => exact hv
      | 2, hv => exact hv
      | 3, hv => cases hv
      | 4, hv => exact hv
      | 5, hv => exact hv
      | 6, hv => cases hv
      | n + 7, hv => cases hv
    exact K

set_option maxRecDepth 100000 in
set_option maxHeartbeats 4000000 in
theorem qX6_goBackTo {G : mG} {d : Nat} {b : Nat × Nat} {h : mH} {Q : Option mV → mH → Prop} (a1 : Nat) (v2 : Int32) (ta1 : mT h a1 = 2) (hS : mSk h)
    (K : mC G kJ7_fill_53178 (d + 4) (0, 0) [.inr (some 31), .inl (-1)] h (fun r h1 => r = none ∧ mSk h1 ∧ mT h1 a1 = 2 ∧ mW G kX6_goBackTo (d + 5) b 15 [some (.inr (some 28)), some (.inr (some a1)), some (.inl v2), some (.inl ((mI h1 28 1) - 1)), none, none] [] h1 Q)) : mC G kX6_goBackTo (d + 5) b [.inr (some 28), .inr (some a1), .inl v2] h Q := by
  refine mC_in rfl (Nat.le_of_ble_eq_true rfl) ?_
  show mW _ _ _ _ _ [some (.inr (some 28)), some (.inr (some a1)), some (.inl v2), none, none, none] _ _ _
  refine mw_aload_n (pc' := 1) dX6_goBackTo_0 rfl rfl ?_
  refine mw_getR (pc' := 4) dX6_goBackTo_1 rfl flX6_35 rfl (skT_28 hS) ?_
  rw [skR_28_8 hS]
  refine mw_iconst (pc' := 5) (v := (-1)) dX6_goBackTo_4 rfl (by decide) ?_
  refine mw_callS (pc' := 8) (b' := (0, 0)) (b1 := b) (av := [.inr (some 31), .inl (-1)]) (rest := []) dX6_goBackTo_5 rfl lkX6_150 rfl rfl (Nat.le_of_ble_eq_true rfl) ⟨Nat.le_of_eq (Nat.zero_add _), Nat.le_of_eq (Nat.zero_add _)⟩ ?_
  refine mC_mono (fun r h1 hr => ?_) K
  obtain ⟨rfl, hS, ta1, K⟩ := hr
  show mW _ _ _ _ _ _ [] _ _
  refine mw_aload_n (pc' := 9) dX6_goBackTo_8 rfl rfl ?_
  refine mw_getI (pc' := 12) dX6_goBackTo_9 rfl flX6_41 rfl (skT_28 hS) ?_
  refine mw_iconst (pc' := 13) (v := 1) dX6_goBackTo_12 rfl (by decide) ?_
  refine mw_isub (pc' := 14) dX6_goBackTo_13 rfl ?_
  refine mw_istore_n (pc' := 15) dX6_goBackTo_14 rfl (by decide) ?_
  show mW _ _ _ _ _ [some (.inr (some 28)), some (.inr (some a1)), some (.inl v2), some (.inl ((mI h1 28 1) - 1)), none, none] _ _ _
  exact K

set_option maxRecDepth 100000 in
set_option maxHeartbeats 4000000 in
theorem qX6_goBackTo_15 {G : mG} {d : Nat} {b : Nat × Nat} {h : mH} {Q : Option mV → mH → Prop} (a1 : Nat) (v2 : Int32) (v3 : Int32) (ta1 : mT h a1 = 2) (hS : mSk h)
    (K : ((v3 ≤ v2 → Q none h) ∧ (¬ (v3 ≤ v2) → mC G kX1_rowsAt (d + 4) (0, 0) [.inr (some a1), .inl v3, .inl (mI h 28 2)] h (fun r h1 => ∃ x2, r = some (.inl x2) ∧ mSk h1 ∧ mT h1 a1 = 2 ∧ mW G kX6_goBackTo (d + 5) b 34 [some (.inr (some 28)), some (.inr (some a1)), some (.inl v2), some (.inl v3), some (.inl x2), some (.inl 0)] [] h1 Q)))) : mW G kX6_goBackTo (d + 5) b 15 [some (.inr (some 28)), some (.inr (some a1)), some (.inl v2), some (.inl v3), none, none] [] h Q := by
  refine mw_iload_n (pc' := 16) dX6_goBackTo_15 rfl rfl ?_
  refine mw_iload_n (pc' := 17) dX6_goBackTo_16 rfl rfl ?_
  refine mw_icmp_le (pc' := 20) (tgt := 163) dX6_goBackTo_17 rfl (by decide) (fun c3 => ?_) (fun c3 => ?_)
  · replace K := K.1 c3
    exact mw_ret dX6_goBackTo_163 rfl K
  · replace K := K.2 c3
    refine mw_aload_n (pc' := 21) dX6_goBackTo_20 rfl rfl ?_
    refine mw_iload_n (pc' := 22) dX6_goBackTo_21 rfl rfl ?_
    refine mw_aload_n (pc' := 23) dX6_goBackTo_22 rfl rfl ?_
    refine mw_getI (pc' := 26) dX6_goBackTo_23 rfl flX6_104 rfl (skT_28 hS) ?_
    refine mw_callV (pc' := 29) (b' := (0, 0)) (b1 := b) (av := [.inl v3, .inl (mI h 28 2)]) (rest := []) dX6_goBackTo_26 rfl lkX6_97 rfl rfl (Nat.le_of_ble_eq_true rfl) ⟨Nat.le_of_eq (Nat.zero_add _), Nat.le_of_eq (Nat.zero_add _)⟩ (ta1) ?_
    refine mC_mono (fun r h1 hr => ?_) K
    obtain ⟨x2, rfl, hS, ta1, K⟩ := hr
    show mW _ _ _ _ _ _ [.inl x2] _ _
    refine mw_istore (pc' := 31) dX6_goBackTo_29 rfl (by decide) ?_
    show mW _ _ _ _ _ [some (.inr (some 28)), some (.inr (some a1)), some (.inl v2), some (.inl v3), some (.inl x2), none] _ _ _
    refine mw_iconst (pc' := 32) (v := 0) dX6_goBackTo_31 rfl (by decide) ?_
    refine mw_istore (pc' := 34) dX6_goBackTo_32 rfl (by decide) ?_
    show mW _ _ _ _ _ [some (.inr (some 28)), some (.inr (some a1)), some (.inl v2), some (.inl v3), some (.inl x2), some (.inl 0)] _ _ _
    exact K

set_option maxRecDepth 100000 in
set_option maxHeartbeats 4000000 in
theorem qX6_goBackTo_34 {G : mG} {d : Nat} {b : Nat × Nat} {h : mH} {Q : Option mV → mH → Prop} (a1 : Nat) (v2 : Int32) (v3 : Int32) (v4 : Int32) (v5 : Int32) (ta1 : mT h a1 = 2) (hS : mSk h)
    (K : (((nI 128) ≤ v5 → mW G kX6_goBackTo (d + 5) b 76 [some (.inr (some 28)), some (.inr (some a1)), some (.inl v2), some (.inl v3), none, some (.inl 0)] [] h Q) ∧ (¬ ((nI 128) ≤ v5) → vp_in v5 128 ∧ vp_in (v4 + (v5 &&& 31)) 1536 ∧ vp_in v5 128 ∧ ∀ h4, h4 = mSI h 31 v5.toNatClampNeg ((mI h 31 v5.toNatClampNeg) &&& (mI h (a1 + 5) (v4 + (v5 &&& 31)).toNatClampNeg)) → mW G kX6_goBackTo (d + 5) b 34 [some (.inr (some 28)), some (.inr (some a1)), some (.inl v2), some (.inl v3), some (.inl v4), some (.inl (v5 + 1))] [] h4 Q))) : mW G kX6_goBackTo (d + 5) b 34 [some (.inr (some 28)), some (.inr (some a1)), some (.inl v2), some (.inl v3), some (.inl v4), some (.inl v5)] [] h Q := by
  refine mw_iload (pc' := 36) dX6_goBackTo_34 rfl rfl ?_
  refine mw_aload_n (pc' := 37) dX6_goBackTo_36 rfl rfl ?_
  refine mw_getR (pc' := 40) dX6_goBackTo_37 rfl flX6_35 rfl (skT_28 hS) ?_
  rw [skR_28_8 hS]
  refine mw_alen (pc' := 41) (t := 0) dX6_goBackTo_40 rfl (by decide) (skT_31 hS) ?_
  rw [skL_31 hS]
  refine mw_icmp_ge (pc' := 44) (tgt := 73) dX6_goBackTo_41 rfl (by decide) (fun c5 => ?_) (fun c5 => ?_)
  · replace K := K.1 c5
    refine mw_iconst (pc' := 74) (v := 0) dX6_goBackTo_73 rfl (by decide) ?_
    refine mw_istore (pc' := 76) dX6_goBackTo_74 rfl (by decide) ?_
    show mW _ _ _ _ _ [some (.inr (some 28)), some (.inr (some a1)), some (.inl v2), some (.inl v3), some (.inl v4), some (.inl 0)] _ _ _
    refine mw_weak (ls' := [some (.inr (some 28)), some (.inr (some a1)), some (.inl v2), some (.inl v3), none, some (.inl 0)]) ?_ ?_
    · intro i v hv; match i, hv with
      | 0, hv => exact hv
      | 1, hv => exact hv
      | 2, hv => exact hv
      | 3, hv => exact hv
      | 4, hv => cases hv
      | 5, hv => exact hv
      | n + 6, hv => cases hv
    exact K
  · replace K := K.2 c5
    refine mw_aload_n (pc' := 45) dX6_goBackTo_44 rfl rfl ?_
    refine mw_getR (pc' := 48) dX6_goBackTo_45 rfl flX6_35 rfl (skT_28 hS) ?_
    rw [skR_28_8 hS]
    refine mw_iload (pc' := 50) dX6_goBackTo_48 rfl rfl ?_
    refine mw_dup2 (pc' := 51) dX6_goBackTo_50 rfl ?_
    obtain ⟨o1, K⟩ := K
    refine mw_ialdL (pc' := 52) dX6_goBackTo_51 rfl (skT_31 hS) (skL_31 hS) o1 ?_
    refine mw_aload_n (pc' := 53) dX6_goBackTo_52 rfl rfl ?_
    refine mw_getR (pc' := 56) dX6_goBackTo_53 rfl flX6_94 rfl (ta1) ?_
    rw [skBR_1_9 hS ta1]
    refine mw_iload (pc' := 58) dX6_goBackTo_56 rfl rfl ?_
    refine mw_iload (pc' := 60) dX6_goBackTo_58 rfl rfl ?_
    refine mw_bipush (pc' := 62) (v := 31) dX6_goBackTo_60 rfl (by decide) ?_
    refine mw_iand (pc' := 63) dX6_goBackTo_62 rfl ?_
    refine mw_iadd (pc' := 64) dX6_goBackTo_63 rfl ?_
    obtain ⟨o2, K⟩ := K
    refine mw_ialdL (pc' := 65) dX6_goBackTo_64 rfl (skBT_1_5 hS ta1) (skBL_1_5 hS ta1) o2 ?_
    refine mw_iand (pc' := 66) dX6_goBackTo_65 rfl ?_
    obtain ⟨o3, K⟩ := K
    refine mw_iastK (pc' := 67) dX6_goBackTo_66 rfl (skT_31 hS) (skL_31 hS) o3 hS (fun h4 eh4 hS => ?_)
    replace K := K h4 eh4
    have ta1 : mT h4 a1 = 2 := by rw [eh4]; exact ta1
    refine mw_iinc (pc' := 70) (v := v5 + 1) dX6_goBackTo_67 rfl (by decide) rfl rfl ?_
    show mW _ _ _ _ _ [some (.inr (some 28)), some (.inr (some a1)), some (.inl v2), some (.inl v3), some (.inl v4), some (.inl (v5 + 1))] _ _ _
    refine mw_goto (tgt := 34) dX6_goBackTo_70 (by decide) ?_
    exact K

set_option maxRecDepth 100000 in
set_option maxHeartbeats 4000000 in
theorem qX6_goBackTo_76 {G : mG} {d : Nat} {b : Nat × Nat} {h : mH} {Q : Option mV → mH → Prop} (a1 : Nat) (v2 : Int32) (v3 : Int32) (v5 : Int32) (ta1 : mT h a1 = 2) (hS : mSk h)
    (K : vp_in v3 12 ∧ ∃ y2, mR h 29 v3.toNatClampNeg = some y2 ∧ mT h y2 = 6 ∧ (((mI h y2 5) ≤ v5 → mW G kX6_goBackTo (d + 5) b 117 [some (.inr (some 28)), some (.inr (some a1)), some (.inl v2), some (.inl v3), none, some (.inl 0)] [] h Q) ∧ (¬ ((mI h y2 5) ≤ v5) → vp_in v3 12 ∧ mC G kX6_sift (d + 4) (0, 0) [.inr (some 28), .inr (some a1), .inr (mR h 29 v3.toNatClampNeg), .inl v5, .inr (some 31), .inl 0] h (fun r h4 => r = none ∧ mSk h4 ∧ mT h4 a1 = 2 ∧ mT h4 y2 = 6 ∧ mW G kX6_goBackTo (d + 5) b 76 [some (.inr (some 28)), some (.inr (some a1)), some (.inl v2), some (.inl v3), none, some (.inl (v5 + 1))] [] h4 Q)))) : mW G kX6_goBackTo (d + 5) b 76 [some (.inr (some 28)), some (.inr (some a1)), some (.inl v2), some (.inl v3), none, some (.inl v5)] [] h Q := by
  refine mw_iload (pc' := 78) dX6_goBackTo_76 rfl rfl ?_
  refine mw_aload_n (pc' := 79) dX6_goBackTo_78 rfl rfl ?_
  refine mw_getR (pc' := 82) dX6_goBackTo_79 rfl flX6_11 rfl (skT_28 hS) ?_
  rw [skR_28_0 hS]
  refine mw_iload_n (pc' := 83) dX6_goBackTo_82 rfl rfl ?_
  obtain ⟨o1, K⟩ := K
  refine mw_aaldL (pc' := 84) dX6_goBackTo_83 rfl (t := 1) (by decide) (skT_29 hS) (skL_29 hS) o1 ?_
  obtain ⟨y2, ey2, ty2, K⟩ := K
  rw [ey2]
  refine mw_getI (pc' := 87) dX6_goBackTo_84 rfl flX6_60 rfl (ty2) ?_
  refine mw_icmp_ge (pc' := 90) (tgt := 114) dX6_goBackTo_87 rfl (by decide) (fun c5 => ?_) (fun c5 => ?_)
  · replace K := K.1 c5
    refine mw_iconst (pc' := 115) (v := 0) dX6_goBackTo_114 rfl (by decide) ?_
    refine mw_istore (pc' := 117) dX6_goBackTo_115 rfl (by decide) ?_
    show mW _ _ _ _ _ [some (.inr (some 28)), some (.inr (some a1)), some (.inl v2), some (.inl v3), none, some (.inl 0)] _ _ _
    exact K
  · replace K := K.2 c5
    refine mw_aload_n (pc' := 91) dX6_goBackTo_90 rfl rfl ?_
    refine mw_aload_n (pc' := 92) dX6_goBackTo_91 rfl rfl ?_
    refine mw_aload_n (pc' := 93) dX6_goBackTo_92 rfl rfl ?_
    refine mw_getR (pc' := 96) dX6_goBackTo_93 rfl flX6_11 rfl (skT_28 hS) ?_
    rw [skR_28_0 hS]
    refine mw_iload_n (pc' := 97) dX6_goBackTo_96 rfl rfl ?_
    obtain ⟨o3, K⟩ := K
    refine mw_aaldL (pc' := 98) dX6_goBackTo_97 rfl (t := 1) (by decide) (skT_29 hS) (skL_29 hS) o3 ?_
    refine mw_iload (pc' := 100) dX6_goBackTo_98 rfl rfl ?_
    refine mw_aload_n (pc' := 101) dX6_goBackTo_100 rfl rfl ?_
    refine mw_getR (pc' := 104) dX6_goBackTo_101 rfl flX6_35 rfl (skT_28 hS) ?_
    rw [skR_28_8 hS]
    refine mw_iconst (pc' := 105) (v := 0) dX6_goBackTo_104 rfl (by decide) ?_
    refine mw_callV (pc' := 108) (b' := (0, 0)) (b1 := b) (av := [.inr (some a1), .inr (mR h 29 v3.toNatClampNeg), .inl v5, .inr (some 31), .inl 0]) (rest := []) dX6_goBackTo_105 rfl lkX6_100 rfl rfl (Nat.le_of_ble_eq_true rfl) ⟨Nat.le_of_eq (Nat.zero_add _), Nat.le_of_eq (Nat.zero_add _)⟩ (skT_28 hS) ?_
    refine mC_mono (fun r h4 hr => ?_) K
    obtain ⟨rfl, hS, ta1, ty2, K⟩ := hr
    show mW _ _ _ _ _ _ [] _ _
    refine mw_iinc (pc' := 111) (v := v5 + 1) dX6_goBackTo_108 rfl (by decide) rfl rfl ?_
    show mW _ _ _ _ _ [some (.inr (some 28)), some (.inr (some a1)), some (.inl v2), some (.inl v3), none, some (.inl (v5 + 1))] _ _ _
    refine mw_goto (tgt := 76) dX6_goBackTo_111 (by decide) ?_
    exact K

set_option maxRecDepth 100000 in
set_option maxHeartbeats 4000000 in
theorem qX6_goBackTo_117 {G : mG} {d : Nat} {b : Nat × Nat} {h : mH} {Q : Option mV → mH → Prop} (a1 : Nat) (v2 : Int32) (v3 : Int32) (v5 : Int32) (ta1 : mT h a1 = 2) (hS : mSk h)
    (K : (((mI h 28 2) < v5 → mW G kX6_goBackTo (d + 5) b 15 [some (.inr (some 28)), some (.inr (some a1)), some (.inl v2), some (.inl (v3 + (-1))), none, none] [] h Q) ∧ (¬ ((mI h 28 2) < v5) → vp_in v3 12 ∧ mC G kX6_drift (d + 4) (0, 0) [.inr (some 28), .inr (some 31), .inl (v5 * 32), .inl (v5 * 32), .inr (mR h 29 v3.toNatClampNeg), .inl (-1)] h (fun r h2 => r = none ∧ mSk h2 ∧ mT h2 a1 = 2 ∧ mW G kX6_goBackTo (d + 5) b 117 [some (.inr (some 28)), some (.inr (some a1)), some (.inl v2), some (.inl v3), none, some (.inl (v5 + 1))] [] h2 Q)))) : mW G kX6_goBackTo (d + 5) b 117 [some (.inr (some 28)), some (.inr (some a1)), some (.inl v2), some (.inl v3), none, some (.inl v5)] [] h Q := by
  refine mw_iload (pc' := 119) dX6_goBackTo_117 rfl rfl ?_
  refine mw_aload_n (pc' := 120) dX6_goBackTo_119 rfl rfl ?_
  refine mw_getI (pc' := 123) dX6_goBackTo_120 rfl flX6_104 rfl (skT_28 hS) ?_
  refine mw_icmp_gt (pc' := 126) (tgt := 157) dX6_goBackTo_123 rfl (by decide) (fun c3 => ?_) (fun c3 => ?_)
  · replace K := K.1 c3
    refine mw_iinc (pc' := 160) (v := v3 + (-1)) dX6_goBackTo_157 rfl (by decide) rfl rfl ?_
    show mW _ _ _ _ _ [some (.inr (some 28)), some (.inr (some a1)), some (.inl v2), some (.inl (v3 + (-1))), none, some (.inl v5)] _ _ _
    refine mw_goto (tgt := 15) dX6_goBackTo_160 (by decide) ?_
    refine mw_weak (ls' := [some (.inr (some 28)), some (.inr (some a1)), some (.inl v2), some (.inl (v3 + (-1))), none, none]) ?_ ?_
    · intro i v hv; match i, hv with
      | 0, hv => exact hv
      | 1, hv => exact hv
      | 2, hv => exact hv
      | 3, hv => exact hv
      | 4, hv => cases hv
      | 5, hv => cases hv
      | n + 6, hv => cases hv
    exact K
  · replace K := K.2 c3
    refine mw_aload_n (pc' := 127) dX6_goBackTo_126 rfl rfl ?_
    refine mw_aload_n (pc' := 128) dX6_goBackTo_127 rfl rfl ?_
    refine mw_getR (pc' := 131) dX6_goBackTo_128 rfl flX6_35 rfl (skT_28 hS) ?_
    rw [skR_28_8 hS]
    refine mw_iload (pc' := 133) dX6_goBackTo_131 rfl rfl ?_
    refine mw_bipush (pc' := 135) (v := 32) dX6_goBackTo_133 rfl (by decide) ?_
    refine mw_imul (pc' := 136) dX6_goBackTo_135 rfl ?_
    refine mw_iload (pc' := 138) dX6_goBackTo_136 rfl rfl ?_
    refine mw_bipush (pc' := 140) (v := 32) dX6_goBackTo_138 rfl (by decide) ?_
    refine mw_imul (pc' := 141) dX6_goBackTo_140 rfl ?_
    refine mw_aload_n (pc' := 142) dX6_goBackTo_141 rfl rfl ?_
    refine mw_getR (pc' := 145) dX6_goBackTo_142 rfl flX6_11 rfl (skT_28 hS) ?_
    rw [skR_28_0 hS]
    refine mw_iload_n (pc' := 146) dX6_goBackTo_145 rfl rfl ?_
    obtain ⟨o1, K⟩ := K
    refine mw_aaldL (pc' := 147) dX6_goBackTo_146 rfl (t := 1) (by decide) (skT_29 hS) (skL_29 hS) o1 ?_
    refine mw_iconst (pc' := 148) (v := (-1)) dX6_goBackTo_147 rfl (by decide) ?_
    refine mw_callV (pc' := 151) (b' := (0, 0)) (b1 := b) (av := [.inr (some 31), .inl (v5 * 32), .inl (v5 * 32), .inr (mR h 29 v3.toNatClampNeg), .inl (-1)]) (rest := []) dX6_goBackTo_148 rfl lkX6_107 rfl rfl (Nat.le_of_ble_eq_true rfl) ⟨Nat.le_of_eq (Nat.zero_add _), Nat.le_of_eq (Nat.zero_add _)⟩ (skT_28 hS) ?_
    refine mC_mono (fun r h2 hr => ?_) K
    obtain ⟨rfl, hS, ta1, K⟩ := hr
    show mW _ _ _ _ _ _ [] _ _
    refine mw_iinc (pc' := 154) (v := v5 + 1) dX6_goBackTo_151 rfl (by decide) rfl rfl ?_
    show mW _ _ _ _ _ [some (.inr (some 28)), some (.inr (some a1)), some (.inl v2), some (.inl v3), none, some (.inl (v5 + 1))] _ _ _
    refine mw_goto (tgt := 117) dX6_goBackTo_154 (by decide) ?_
    exact K
