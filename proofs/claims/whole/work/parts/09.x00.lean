set_option maxRecDepth 100000 in
set_option maxHeartbeats 4000000 in
theorem qX0_get {G : mG} {d : Nat} {b : Nat × Nat} {h : mH} {Q : Option mV → mH → Prop} (v1 : Int32) (hS : mSk h)
    (K : ((v1 < 0 → Q (some (.inr none)) h) ∧ (¬ (v1 < 0) → (((mI h 33 1) ≤ v1 → Q (some (.inr none)) h) ∧ (¬ ((mI h 33 1) ≤ v1) → vp_in v1 8 ∧ Q (some (.inr (mR h 34 v1.toNatClampNeg))) h))))) : mC G kX0_get d b [.inr (some 33), .inl v1] h Q := by
  refine mC_in rfl (Nat.le_of_ble_eq_true rfl) ?_
  show mW _ _ _ _ _ [some (.inr (some 33)), some (.inl v1)] _ _ _
  refine mw_iload_n (pc' := 1) dX0_get_0 rfl rfl ?_
  refine mw_if_lt (pc' := 4) (tgt := 21) dX0_get_1 rfl (by decide) (fun c3 => ?_) (fun c3 => ?_)
  · replace K := K.1 c3
    refine mw_null (pc' := 22) dX0_get_21 rfl ?_
    exact mw_aret dX0_get_22 rfl (by first | exact Or.inl ⟨_, rfl⟩ | exact Or.inr ⟨_, rfl⟩) K
  · replace K := K.2 c3
    refine mw_iload_n (pc' := 5) dX0_get_4 rfl rfl ?_
    refine mw_aload_n (pc' := 6) dX0_get_5 rfl rfl ?_
    refine mw_getI (pc' := 9) dX0_get_6 rfl flX0_27 rfl (skT_33 hS) ?_
    refine mw_icmp_ge (pc' := 12) (tgt := 21) dX0_get_9 rfl (by decide) (fun c2 => ?_) (fun c2 => ?_)
    · replace K := K.1 c2
      refine mw_null (pc' := 22) dX0_get_21 rfl ?_
      exact mw_aret dX0_get_22 rfl (by first | exact Or.inl ⟨_, rfl⟩ | exact Or.inr ⟨_, rfl⟩) K
    · replace K := K.2 c2
      refine mw_aload_n (pc' := 13) dX0_get_12 rfl rfl ?_
      refine mw_getR (pc' := 16) dX0_get_13 rfl flX0_11 rfl (skT_33 hS) ?_
      rw [skR_33_0 hS]
      refine mw_iload_n (pc' := 17) dX0_get_16 rfl rfl ?_
      obtain ⟨o1, K⟩ := K
      refine mw_aaldL (pc' := 18) dX0_get_17 rfl (t := 0) (by decide) (skT_34 hS) (skL_34 hS) o1 ?_
      refine mw_goto (tgt := 22) dX0_get_18 (by decide) ?_
      exact mw_aret dX0_get_22 rfl (by first | exact Or.inl ⟨_, rfl⟩ | exact Or.inr ⟨_, rfl⟩) K

set_option maxRecDepth 100000 in
set_option maxHeartbeats 4000000 in
theorem qX0_restart {G : mG} {d : Nat} {b : Nat × Nat} {h : mH} {Q : Option mV → mH → Prop}  (hS : mSk h)
    (K : mW G kX0_restart d b 2 [some (.inr (some 33)), some (.inl 0)] [] h Q) : mC G kX0_restart d b [.inr (some 33)] h Q := by
  refine mC_in rfl (Nat.le_of_ble_eq_true rfl) ?_
  show mW _ _ _ _ _ [some (.inr (some 33)), none] _ _ _
  refine mw_iconst (pc' := 1) (v := 0) dX0_restart_0 rfl (by decide) ?_
  refine mw_istore_n (pc' := 2) dX0_restart_1 rfl (by decide) ?_
  show mW _ _ _ _ _ [some (.inr (some 33)), some (.inl 0)] _ _ _
  exact K

set_option maxRecDepth 100000 in
set_option maxHeartbeats 4000000 in
theorem qX0_restart_2 {G : mG} {d : Nat} {b : Nat × Nat} {h : mH} {Q : Option mV → mH → Prop} (v1 : Int32) (hS : mSk h)
    (K : (((mI h 33 1) ≤ v1 → Q none h) ∧ (¬ ((mI h 33 1) ≤ v1) → vp_in v1 8 ∧ ∃ y2, mR h 34 v1.toNatClampNeg = some y2 ∧ mT h y2 = 2 ∧ ∀ h3, h3 = mSI h y2 10 0 → vp_in v1 8 ∧ ∃ y5, mR h3 34 v1.toNatClampNeg = some y5 ∧ mT h3 y5 = 2 ∧ ∀ h6, h6 = mSI h3 y5 11 0 → mW G kX0_restart d b 2 [some (.inr (some 33)), some (.inl (v1 + 1))] [] h6 Q))) : mW G kX0_restart d b 2 [some (.inr (some 33)), some (.inl v1)] [] h Q := by
  refine mw_iload_n (pc' := 3) dX0_restart_2 rfl rfl ?_
  refine mw_aload_n (pc' := 4) dX0_restart_3 rfl rfl ?_
  refine mw_getI (pc' := 7) dX0_restart_4 rfl flX0_27 rfl (skT_33 hS) ?_
  refine mw_icmp_ge (pc' := 10) (tgt := 36) dX0_restart_7 rfl (by decide) (fun c7 => ?_) (fun c7 => ?_)
  · replace K := K.1 c7
    exact mw_ret dX0_restart_36 rfl K
  · replace K := K.2 c7
    refine mw_aload_n (pc' := 11) dX0_restart_10 rfl rfl ?_
    refine mw_getR (pc' := 14) dX0_restart_11 rfl flX0_11 rfl (skT_33 hS) ?_
    rw [skR_33_0 hS]
    refine mw_iload_n (pc' := 15) dX0_restart_14 rfl rfl ?_
    obtain ⟨o1, K⟩ := K
    refine mw_aaldL (pc' := 16) dX0_restart_15 rfl (t := 0) (by decide) (skT_34 hS) (skL_34 hS) o1 ?_
    refine mw_iconst (pc' := 17) (v := 0) dX0_restart_16 rfl (by decide) ?_
    obtain ⟨y2, ey2, ty2, K⟩ := K
    rw [ey2]
    refine mw_putIK (pc' := 20) dX0_restart_17 rfl flX0_31 rfl (Or.inl rfl) ⟨rfl, rfl⟩ (ty2) hS (fun h3 eh3 hS => ?_)
    replace K := K h3 eh3
    have ty2 : mT h3 y2 = 2 := by rw [eh3]; exact ty2
    refine mw_aload_n (pc' := 21) dX0_restart_20 rfl rfl ?_
    refine mw_getR (pc' := 24) dX0_restart_21 rfl flX0_11 rfl (skT_33 hS) ?_
    rw [skR_33_0 hS]
    refine mw_iload_n (pc' := 25) dX0_restart_24 rfl rfl ?_
    obtain ⟨o4, K⟩ := K
    refine mw_aaldL (pc' := 26) dX0_restart_25 rfl (t := 0) (by decide) (skT_34 hS) (skL_34 hS) o4 ?_
    refine mw_iconst (pc' := 27) (v := 0) dX0_restart_26 rfl (by decide) ?_
    obtain ⟨y5, ey5, ty5, K⟩ := K
    rw [ey5]
    refine mw_putIK (pc' := 30) dX0_restart_27 rfl flX0_34 rfl (Or.inl rfl) ⟨rfl, rfl⟩ (ty5) hS (fun h6 eh6 hS => ?_)
    replace K := K h6 eh6
    have ty2 : mT h6 y2 = 2 := by rw [eh6]; exact ty2
    have ty5 : mT h6 y5 = 2 := by rw [eh6]; exact ty5
    refine mw_iinc (pc' := 33) (v := v1 + 1) dX0_restart_30 rfl (by decide) rfl rfl ?_
    show mW _ _ _ _ _ [some (.inr (some 33)), some (.inl (v1 + 1))] _ _ _
    refine mw_goto (tgt := 2) dX0_restart_33 (by decide) ?_
    exact K

set_option maxRecDepth 100000 in
set_option maxHeartbeats 4000000 in
theorem qX0_dropBeyond {G : mG} {d : Nat} {b : Nat × Nat} {h : mH} {Q : Option mV → mH → Prop}  (hS : mSk h)
    (K : mC G kX6_last d (0, 0) [.inr (some 28)] h (fun r h1 => ∃ z2, r = some (.inr z2) ∧ mSk h1 ∧ mW G kX0_dropBeyond (d + 1) b 7 [some (.inr (some 33)), some (.inr (some 28)), some (.inr z2), some (.inl 0)] [] h1 Q)) : mC G kX0_dropBeyond (d + 1) b [.inr (some 33), .inr (some 28)] h Q := by
  refine mC_in rfl (Nat.le_of_ble_eq_true rfl) ?_
  show mW _ _ _ _ _ [some (.inr (some 33)), some (.inr (some 28)), none, none] _ _ _
  refine mw_aload_n (pc' := 1) dX0_dropBeyond_0 rfl rfl ?_
  refine mw_callV (pc' := 4) (b' := (0, 0)) (b1 := b) (av := []) (rest := []) dX0_dropBeyond_1 rfl lkX0_37 rfl rfl (Nat.le_of_ble_eq_true rfl) ⟨Nat.le_of_eq (Nat.zero_add _), Nat.le_of_eq (Nat.zero_add _)⟩ (skT_28 hS) ?_
  refine mC_mono (fun r h1 hr => ?_) K
  obtain ⟨z2, rfl, hS, K⟩ := hr
  show mW _ _ _ _ _ _ [.inr z2] _ _
  refine mw_astore_n (pc' := 5) dX0_dropBeyond_4 rfl (by decide) ?_
  show mW _ _ _ _ _ [some (.inr (some 33)), some (.inr (some 28)), some (.inr z2), none] _ _ _
  refine mw_iconst (pc' := 6) (v := 0) dX0_dropBeyond_5 rfl (by decide) ?_
  refine mw_istore_n (pc' := 7) dX0_dropBeyond_6 rfl (by decide) ?_
  show mW _ _ _ _ _ [some (.inr (some 33)), some (.inr (some 28)), some (.inr z2), some (.inl 0)] _ _ _
  exact K

set_option maxRecDepth 100000 in
set_option maxHeartbeats 4000000 in
theorem qX0_dropBeyond_7 {G : mG} {d : Nat} {b : Nat × Nat} {h : mH} {Q : Option mV → mH → Prop} (r2 : Option Nat) (v3 : Int32) (hS : mSk h)
    (K : (((mI h 33 1) ≤ v3 → Q none h) ∧ (¬ ((mI h 33 1) ≤ v3) → vp_in v3 8 ∧ ∃ y2, mR h 34 v3.toNatClampNeg = some y2 ∧ mT h y2 = 2 ∧ (((mI h y2 10) ≤ (mI h 28 1) → mW G kX0_dropBeyond (d + 1) b 7 [some (.inr (some 33)), some (.inr (some 28)), some (.inr r2), some (.inl (v3 + 1))] [] h Q) ∧ (¬ ((mI h y2 10) ≤ (mI h 28 1)) → vp_in v3 8 ∧ ∃ y4, mR h 34 v3.toNatClampNeg = some y4 ∧ mT h y4 = 2 ∧ ∀ h5, h5 = mSI h y4 10 (mI h 28 1) → vp_in v3 8 ∧ ((r2 = none → ∃ y8, mR h5 34 v3.toNatClampNeg = some y8 ∧ mT h5 y8 = 2 ∧ ∀ h9, h9 = mSI h5 y8 11 0 → mW G kX0_dropBeyond (d + 1) b 7 [some (.inr (some 33)), some (.inr (some 28)), some (.inr none), some (.inl (v3 + 1))] [] h9 Q) ∧ (∀ y7, r2 = some y7 → mT h5 y7 = 6 ∧ ∃ y10, mR h5 34 v3.toNatClampNeg = some y10 ∧ mT h5 y10 = 2 ∧ ∀ h11, h11 = mSI h5 y10 11 (mI h5 y7 5) → mW G kX0_dropBeyond (d + 1) b 7 [some (.inr (some 33)), some (.inr (some 28)), some (.inr (some y7)), some (.inl (v3 + 1))] [] h11 Q))))))) : mW G kX0_dropBeyond (d + 1) b 7 [some (.inr (some 33)), some (.inr (some 28)), some (.inr r2), some (.inl v3)] [] h Q := by
  refine mw_iload_n (pc' := 8) dX0_dropBeyond_7 rfl rfl ?_
  refine mw_aload_n (pc' := 9) dX0_dropBeyond_8 rfl rfl ?_
  refine mw_getI (pc' := 12) dX0_dropBeyond_9 rfl flX0_27 rfl (skT_33 hS) ?_
  refine mw_icmp_ge (pc' := 15) (tgt := 71) dX0_dropBeyond_12 rfl (by decide) (fun c14 => ?_) (fun c14 => ?_)
  · replace K := K.1 c14
    exact mw_ret dX0_dropBeyond_71 rfl K
  · replace K := K.2 c14
    refine mw_aload_n (pc' := 16) dX0_dropBeyond_15 rfl rfl ?_
    refine mw_getR (pc' := 19) dX0_dropBeyond_16 rfl flX0_11 rfl (skT_33 hS) ?_
    rw [skR_33_0 hS]
    refine mw_iload_n (pc' := 20) dX0_dropBeyond_19 rfl rfl ?_
    obtain ⟨o1, K⟩ := K
    refine mw_aaldL (pc' := 21) dX0_dropBeyond_20 rfl (t := 0) (by decide) (skT_34 hS) (skL_34 hS) o1 ?_
    obtain ⟨y2, ey2, ty2, K⟩ := K
    rw [ey2]
    refine mw_getI (pc' := 24) dX0_dropBeyond_21 rfl flX0_31 rfl (ty2) ?_
    refine mw_aload_n (pc' := 25) dX0_dropBeyond_24 rfl rfl ?_
    refine mw_getI (pc' := 28) dX0_dropBeyond_25 rfl flX0_43 rfl (skT_28 hS) ?_
    refine mw_icmp_le (pc' := 31) (tgt := 65) dX0_dropBeyond_28 rfl (by decide) (fun c13 => ?_) (fun c13 => ?_)
    · replace K := K.1 c13
      refine mw_iinc (pc' := 68) (v := v3 + 1) dX0_dropBeyond_65 rfl (by decide) rfl rfl ?_
      show mW _ _ _ _ _ [some (.inr (some 33)), some (.inr (some 28)), some (.inr r2), some (.inl (v3 + 1))] _ _ _
      refine mw_goto (tgt := 7) dX0_dropBeyond_68 (by decide) ?_
      exact K
    · replace K := K.2 c13
      refine mw_aload_n (pc' := 32) dX0_dropBeyond_31 rfl rfl ?_
      refine mw_getR (pc' := 35) dX0_dropBeyond_32 rfl flX0_11 rfl (skT_33 hS) ?_
      rw [skR_33_0 hS]
      refine mw_iload_n (pc' := 36) dX0_dropBeyond_35 rfl rfl ?_
      obtain ⟨o3, K⟩ := K
      refine mw_aaldL (pc' := 37) dX0_dropBeyond_36 rfl (t := 0) (by decide) (skT_34 hS) (skL_34 hS) o3 ?_
      refine mw_aload_n (pc' := 38) dX0_dropBeyond_37 rfl rfl ?_
      refine mw_getI (pc' := 41) dX0_dropBeyond_38 rfl flX0_43 rfl (skT_28 hS) ?_
      obtain ⟨y4, ey4, ty4, K⟩ := K
      rw [ey4]
      refine mw_putIK (pc' := 44) dX0_dropBeyond_41 rfl flX0_31 rfl (Or.inl rfl) ⟨rfl, rfl⟩ (ty4) hS (fun h5 eh5 hS => ?_)
      replace K := K h5 eh5
      have ty2 : mT h5 y2 = 2 := by rw [eh5]; exact ty2
      have ty4 : mT h5 y4 = 2 := by rw [eh5]; exact ty4
      refine mw_aload_n (pc' := 45) dX0_dropBeyond_44 rfl rfl ?_
      refine mw_getR (pc' := 48) dX0_dropBeyond_45 rfl flX0_11 rfl (skT_33 hS) ?_
      rw [skR_33_0 hS]
      refine mw_iload_n (pc' := 49) dX0_dropBeyond_48 rfl rfl ?_
      obtain ⟨o6, K⟩ := K
      refine mw_aaldL (pc' := 50) dX0_dropBeyond_49 rfl (t := 0) (by decide) (skT_34 hS) (skL_34 hS) o6 ?_
      refine mw_aload_n (pc' := 51) dX0_dropBeyond_50 rfl rfl ?_
      refine mw_ifnonnull (pc' := 54) (tgt := 58) dX0_dropBeyond_51 rfl (by decide) (fun y7 c12 => ?_) (fun c12 => ?_)
      · obtain ⟨ty7, K⟩ := K.2 y7 c12
        try rw [c12]
        refine mw_aload_n (pc' := 59) dX0_dropBeyond_58 rfl rfl ?_
        refine mw_getI (pc' := 62) dX0_dropBeyond_59 rfl flX0_44 rfl (ty7) ?_
        obtain ⟨y10, ey10, ty10, K⟩ := K
        rw [ey10]
        refine mw_putIK (pc' := 65) dX0_dropBeyond_62 rfl flX0_34 rfl (Or.inl rfl) ⟨rfl, rfl⟩ (ty10) hS (fun h11 eh11 hS => ?_)
        replace K := K h11 eh11
        have ty2 : mT h11 y2 = 2 := by rw [eh11]; exact ty2
        have ty4 : mT h11 y4 = 2 := by rw [eh11]; exact ty4
        have ty7 : mT h11 y7 = 6 := by rw [eh11]; exact ty7
        have ty10 : mT h11 y10 = 2 := by rw [eh11]; exact ty10
        refine mw_iinc (pc' := 68) (v := v3 + 1) dX0_dropBeyond_65 rfl (by decide) rfl rfl ?_
        show mW _ _ _ _ _ [some (.inr (some 33)), some (.inr (some 28)), some (.inr (some y7)), some (.inl (v3 + 1))] _ _ _
        refine mw_goto (tgt := 7) dX0_dropBeyond_68 (by decide) ?_
        exact K
      · replace K := K.1 c12
        try rw [c12]
        refine mw_iconst (pc' := 55) (v := 0) dX0_dropBeyond_54 rfl (by decide) ?_
        refine mw_goto (tgt := 62) dX0_dropBeyond_55 (by decide) ?_
        obtain ⟨y8, ey8, ty8, K⟩ := K
        rw [ey8]
        refine mw_putIK (pc' := 65) dX0_dropBeyond_62 rfl flX0_34 rfl (Or.inl rfl) ⟨rfl, rfl⟩ (ty8) hS (fun h9 eh9 hS => ?_)
        replace K := K h9 eh9
        have ty2 : mT h9 y2 = 2 := by rw [eh9]; exact ty2
        have ty4 : mT h9 y4 = 2 := by rw [eh9]; exact ty4
        have ty8 : mT h9 y8 = 2 := by rw [eh9]; exact ty8
        refine mw_iinc (pc' := 68) (v := v3 + 1) dX0_dropBeyond_65 rfl (by decide) rfl rfl ?_
        show mW _ _ _ _ _ [some (.inr (some 33)), some (.inr (some 28)), some (.inr none), some (.inl (v3 + 1))] _ _ _
        refine mw_goto (tgt := 7) dX0_dropBeyond_68 (by decide) ?_
        exact K

set_option maxRecDepth 100000 in
set_option maxHeartbeats 4000000 in
theorem qX0_survey {G : mG} {d : Nat} {b : Nat × Nat} {h : mH} {Q : Option mV → mH → Prop} (v2 : Int32) (hS : mSk h)
    (K : ((¬ (mI h 33 6) = v2 → ∀ h1, h1 = mSI h 33 6 v2 → ∀ h2, h2 = mSI h1 33 2 0 → mC G kJ7_fill_53178 (d + 5) (0, 0) [.inr (some 35), .inl (-1)] h2 (fun r h3 => r = none ∧ mSk h3 ∧ mC G kJ7_fill_53178 (d + 5) (0, 0) [.inr (some 36), .inl (-1)] h3 (fun r h4 => r = none ∧ mSk h4 ∧ mW G kX0_survey (d + 6) b 37 [some (.inr (some 33)), some (.inr (some 28)), none, some (.inl 0), none] [] h4 Q))) ∧ ((mI h 33 6) = v2 → Q none h))) : mC G kX0_survey (d + 6) b [.inr (some 33), .inr (some 28), .inl v2] h Q := by
  refine mC_in rfl (Nat.le_of_ble_eq_true rfl) ?_
  show mW _ _ _ _ _ [some (.inr (some 33)), some (.inr (some 28)), some (.inl v2), none, none] _ _ _
  refine mw_aload_n (pc' := 1) dX0_survey_0 rfl rfl ?_
  refine mw_getI (pc' := 4) dX0_survey_1 rfl flX0_49 rfl (skT_33 hS) ?_
  refine mw_iload_n (pc' := 5) dX0_survey_4 rfl rfl ?_
  refine mw_icmp_ne (pc' := 8) (tgt := 9) dX0_survey_5 rfl (by decide) (fun c5 => ?_) (fun c5 => ?_)
  · replace K := K.1 c5
    refine mw_aload_n (pc' := 10) dX0_survey_9 rfl rfl ?_
    refine mw_iload_n (pc' := 11) dX0_survey_10 rfl rfl ?_
    refine mw_putIK (pc' := 14) dX0_survey_11 rfl flX0_49 rfl (Or.inl rfl) ⟨rfl, rfl⟩ (skT_33 hS) hS (fun h1 eh1 hS => ?_)
    replace K := K h1 eh1
    refine mw_aload_n (pc' := 15) dX0_survey_14 rfl rfl ?_
    refine mw_iconst (pc' := 16) (v := 0) dX0_survey_15 rfl (by decide) ?_
    refine mw_putIK (pc' := 19) dX0_survey_16 rfl flX0_52 rfl (Or.inl rfl) ⟨rfl, rfl⟩ (skT_33 hS) hS (fun h2 eh2 hS => ?_)
    replace K := K h2 eh2
    refine mw_aload_n (pc' := 20) dX0_survey_19 rfl rfl ?_
    refine mw_getR (pc' := 23) dX0_survey_20 rfl flX0_17 rfl (skT_33 hS) ?_
    rw [skR_33_3 hS]
    refine mw_iconst (pc' := 24) (v := (-1)) dX0_survey_23 rfl (by decide) ?_
    refine mw_callS (pc' := 27) (b' := (0, 0)) (b1 := b) (av := [.inr (some 35), .inl (-1)]) (rest := []) dX0_survey_24 rfl lkX0_55 rfl rfl (Nat.le_of_ble_eq_true rfl) ⟨Nat.le_of_eq (Nat.zero_add _), Nat.le_of_eq (Nat.zero_add _)⟩ ?_
    refine mC_mono (fun r h3 hr => ?_) K
    obtain ⟨rfl, hS, K⟩ := hr
    show mW _ _ _ _ _ _ [] _ _
    refine mw_aload_n (pc' := 28) dX0_survey_27 rfl rfl ?_
    refine mw_getR (pc' := 31) dX0_survey_28 rfl flX0_21 rfl (skT_33 hS) ?_
    rw [skR_33_4 hS]
    refine mw_iconst (pc' := 32) (v := (-1)) dX0_survey_31 rfl (by decide) ?_
    refine mw_callS (pc' := 35) (b' := (0, 0)) (b1 := b) (av := [.inr (some 36), .inl (-1)]) (rest := []) dX0_survey_32 rfl lkX0_55 rfl rfl (Nat.le_of_ble_eq_true rfl) ⟨Nat.le_of_eq (Nat.zero_add _), Nat.le_of_eq (Nat.zero_add _)⟩ ?_
    refine mC_mono (fun r h4 hr => ?_) K
    obtain ⟨rfl, hS, K⟩ := hr
    show mW _ _ _ _ _ _ [] _ _
    refine mw_iconst (pc' := 36) (v := 0) dX0_survey_35 rfl (by decide) ?_
    refine mw_istore_n (pc' := 37) dX0_survey_36 rfl (by decide) ?_
    show mW _ _ _ _ _ [some (.inr (some 33)), some (.inr (some 28)), some (.inl v2), some (.inl 0), none] _ _ _
    refine mw_weak (ls' := [some (.inr (some 33)), some (.inr (some 28)), none, some (.inl 0), none]) ?_ ?_
    · intro i v hv; match i, hv with
      | 0, hv => exact hv
      | 1, hv => exact hv
      | 2, hv => cases hv
      | 3, hv => exact hv
      | 4, hv => cases hv
      | n + 5, hv => cases hv
    exact K
  · replace K := K.2 c5
    exact mw_ret dX0_survey_8 rfl K

set_option maxRecDepth 100000 in
set_option maxHeartbeats 4000000 in
theorem qX0_survey_37 {G : mG} {d : Nat} {b : Nat × Nat} {h : mH} {Q : Option mV → mH → Prop} (v3 : Int32) (hS : mSk h)
    (K : (((mI h 33 1) ≤ v3 → ((¬ (mI h 33 2) = 0 → Q none h) ∧ ((mI h 33 2) = 0 → mC G kJ7_fill_53178 (d + 5) (0, 0) [.inr (some 35), .inl 0] h (fun r h1 => r = none ∧ mSk h1 ∧ mC G kJ7_fill_53178 (d + 5) (0, 0) [.inr (some 36), .inl 0] h1 (fun r h2 => r = none ∧ mSk h2 ∧ Q none h2))))) ∧ (¬ ((mI h 33 1) ≤ v3) → vp_in v3 8 ∧ mC G kX6_follow (d + 5) (0, 0) [.inr (some 28), .inr (mR h 34 v3.toNatClampNeg)] h (fun r h5 => r = none ∧ mSk h5 ∧ vp_in v3 8 ∧ mC G kX6_badLine (d + 5) (0, 0) [.inr (some 28), .inr (mR h5 34 v3.toNatClampNeg)] h5 (fun r h7 => ∃ x8, r = some (.inl x8) ∧ mSk h7 ∧ ((¬ x8 = (-1) → mW G kX0_survey (d + 6) b 37 [some (.inr (some 33)), some (.inr (some 28)), none, some (.inl (v3 + 1)), none] [] h7 Q) ∧ (x8 = (-1) → ∀ h9, h9 = mSI h7 33 2 ((mI h7 33 2) ||| (m_shl 1 v3)) → mW G kX0_survey (d + 6) b 84 [some (.inr (some 33)), some (.inr (some 28)), none, some (.inl v3), some (.inl 0)] [] h9 Q))))))) : mW G kX0_survey (d + 6) b 37 [some (.inr (some 33)), some (.inr (some 28)), none, some (.inl v3), none] [] h Q := by
  refine mw_iload_n (pc' := 38) dX0_survey_37 rfl rfl ?_
  refine mw_aload_n (pc' := 39) dX0_survey_38 rfl rfl ?_
  refine mw_getI (pc' := 42) dX0_survey_39 rfl flX0_27 rfl (skT_33 hS) ?_
  refine mw_icmp_ge (pc' := 45) (tgt := 149) dX0_survey_42 rfl (by decide) (fun c11 => ?_) (fun c11 => ?_)
  · replace K := K.1 c11
    refine mw_aload_n (pc' := 150) dX0_survey_149 rfl rfl ?_
    refine mw_getI (pc' := 153) dX0_survey_150 rfl flX0_52 rfl (skT_33 hS) ?_
    refine mw_if_ne (pc' := 156) (tgt := 172) dX0_survey_153 rfl (by decide) (fun c3 => ?_) (fun c3 => ?_)
    · replace K := K.1 c3
      exact mw_ret dX0_survey_172 rfl K
    · replace K := K.2 c3
      refine mw_aload_n (pc' := 157) dX0_survey_156 rfl rfl ?_
      refine mw_getR (pc' := 160) dX0_survey_157 rfl flX0_17 rfl (skT_33 hS) ?_
      rw [skR_33_3 hS]
      refine mw_iconst (pc' := 161) (v := 0) dX0_survey_160 rfl (by decide) ?_
      refine mw_callS (pc' := 164) (b' := (0, 0)) (b1 := b) (av := [.inr (some 35), .inl 0]) (rest := []) dX0_survey_161 rfl lkX0_55 rfl rfl (Nat.le_of_ble_eq_true rfl) ⟨Nat.le_of_eq (Nat.zero_add _), Nat.le_of_eq (Nat.zero_add _)⟩ ?_
      refine mC_mono (fun r h1 hr => ?_) K
      obtain ⟨rfl, hS, K⟩ := hr
      show mW _ _ _ _ _ _ [] _ _
      refine mw_aload_n (pc' := 165) dX0_survey_164 rfl rfl ?_
      refine mw_getR (pc' := 168) dX0_survey_165 rfl flX0_21 rfl (skT_33 hS) ?_
      rw [skR_33_4 hS]
      refine mw_iconst (pc' := 169) (v := 0) dX0_survey_168 rfl (by decide) ?_
      refine mw_callS (pc' := 172) (b' := (0, 0)) (b1 := b) (av := [.inr (some 36), .inl 0]) (rest := []) dX0_survey_169 rfl lkX0_55 rfl rfl (Nat.le_of_ble_eq_true rfl) ⟨Nat.le_of_eq (Nat.zero_add _), Nat.le_of_eq (Nat.zero_add _)⟩ ?_
      refine mC_mono (fun r h2 hr => ?_) K
      obtain ⟨rfl, hS, K⟩ := hr
      show mW _ _ _ _ _ _ [] _ _
      exact mw_ret dX0_survey_172 rfl K
  · replace K := K.2 c11
    refine mw_aload_n (pc' := 46) dX0_survey_45 rfl rfl ?_
    refine mw_aload_n (pc' := 47) dX0_survey_46 rfl rfl ?_
    refine mw_getR (pc' := 50) dX0_survey_47 rfl flX0_11 rfl (skT_33 hS) ?_
    rw [skR_33_0 hS]
    refine mw_iload_n (pc' := 51) dX0_survey_50 rfl rfl ?_
    obtain ⟨o4, K⟩ := K
    refine mw_aaldL (pc' := 52) dX0_survey_51 rfl (t := 0) (by decide) (skT_34 hS) (skL_34 hS) o4 ?_
    refine mw_callV (pc' := 55) (b' := (0, 0)) (b1 := b) (av := [.inr (mR h 34 v3.toNatClampNeg)]) (rest := []) dX0_survey_52 rfl lkX0_61 rfl rfl (Nat.le_of_ble_eq_true rfl) ⟨Nat.le_of_eq (Nat.zero_add _), Nat.le_of_eq (Nat.zero_add _)⟩ (skT_28 hS) ?_
    refine mC_mono (fun r h5 hr => ?_) K
    obtain ⟨rfl, hS, K⟩ := hr
    show mW _ _ _ _ _ _ [] _ _
    refine mw_aload_n (pc' := 56) dX0_survey_55 rfl rfl ?_
    refine mw_aload_n (pc' := 57) dX0_survey_56 rfl rfl ?_
    refine mw_getR (pc' := 60) dX0_survey_57 rfl flX0_11 rfl (skT_33 hS) ?_
    rw [skR_33_0 hS]
    refine mw_iload_n (pc' := 61) dX0_survey_60 rfl rfl ?_
    obtain ⟨o6, K⟩ := K
    refine mw_aaldL (pc' := 62) dX0_survey_61 rfl (t := 0) (by decide) (skT_34 hS) (skL_34 hS) o6 ?_
    refine mw_callV (pc' := 65) (b' := (0, 0)) (b1 := b) (av := [.inr (mR h5 34 v3.toNatClampNeg)]) (rest := []) dX0_survey_62 rfl lkX0_65 rfl rfl (Nat.le_of_ble_eq_true rfl) ⟨Nat.le_of_eq (Nat.zero_add _), Nat.le_of_eq (Nat.zero_add _)⟩ (skT_28 hS) ?_
    refine mC_mono (fun r h7 hr => ?_) K
    obtain ⟨x8, rfl, hS, K⟩ := hr
    show mW _ _ _ _ _ _ [.inl x8] _ _
    refine mw_iconst (pc' := 66) (v := (-1)) dX0_survey_65 rfl (by decide) ?_
    refine mw_icmp_ne (pc' := 69) (tgt := 143) dX0_survey_66 rfl (by decide) (fun c10 => ?_) (fun c10 => ?_)
    · replace K := K.1 c10
      refine mw_iinc (pc' := 146) (v := v3 + 1) dX0_survey_143 rfl (by decide) rfl rfl ?_
      show mW _ _ _ _ _ [some (.inr (some 33)), some (.inr (some 28)), none, some (.inl (v3 + 1)), none] _ _ _
      refine mw_goto (tgt := 37) dX0_survey_146 (by decide) ?_
      exact K
    · replace K := K.2 c10
      refine mw_aload_n (pc' := 70) dX0_survey_69 rfl rfl ?_
      refine mw_dup (pc' := 71) dX0_survey_70 rfl ?_
      refine mw_getI (pc' := 74) dX0_survey_71 rfl flX0_52 rfl (skT_33 hS) ?_
      refine mw_iconst (pc' := 75) (v := 1) dX0_survey_74 rfl (by decide) ?_
      refine mw_iload_n (pc' := 76) dX0_survey_75 rfl rfl ?_
      refine mw_ishlM (pc' := 77) dX0_survey_76 rfl ?_
      refine mw_ior (pc' := 78) dX0_survey_77 rfl ?_
      refine mw_putIK (pc' := 81) dX0_survey_78 rfl flX0_52 rfl (Or.inl rfl) ⟨rfl, rfl⟩ (skT_33 hS) hS (fun h9 eh9 hS => ?_)
      replace K := K h9 eh9
      refine mw_iconst (pc' := 82) (v := 0) dX0_survey_81 rfl (by decide) ?_
      refine mw_istore (pc' := 84) dX0_survey_82 rfl (by decide) ?_
      show mW _ _ _ _ _ [some (.inr (some 33)), some (.inr (some 28)), none, some (.inl v3), some (.inl 0)] _ _ _
      exact K

set_option maxRecDepth 100000 in
set_option maxHeartbeats 4000000 in
theorem qX0_survey_84 {G : mG} {d : Nat} {b : Nat × Nat} {h : mH} {Q : Option mV → mH → Prop} (v3 : Int32) (v4 : Int32) (hS : mSk h)
    (K : ((32 ≤ v4 → mW G kX0_survey (d + 6) b 37 [some (.inr (some 33)), some (.inr (some 28)), none, some (.inl (v3 + 1)), none] [] h Q) ∧ (¬ (32 ≤ v4) → vp_in v4 32 ∧ vp_in v3 8 ∧ ∃ y3, mR h 34 v3.toNatClampNeg = some y3 ∧ mT h y3 = 2 ∧ vp_in v4 32 ∧ vp_in v4 32 ∧ ∀ h6, h6 = mSI h 35 v4.toNatClampNeg ((mI h 35 v4.toNatClampNeg) &&& (mI h (y3 + 1) v4.toNatClampNeg)) → vp_in v4 32 ∧ vp_in v3 8 ∧ ∃ y9, mR h6 34 v3.toNatClampNeg = some y9 ∧ mT h6 y9 = 2 ∧ vp_in v4 32 ∧ vp_in v4 32 ∧ ∀ h12, h12 = mSI h6 36 v4.toNatClampNeg ((mI h6 36 v4.toNatClampNeg) &&& (m_not (mI h6 (y9 + 1) v4.toNatClampNeg))) → mW G kX0_survey (d + 6) b 84 [some (.inr (some 33)), some (.inr (some 28)), none, some (.inl v3), some (.inl (v4 + 1))] [] h12 Q))) : mW G kX0_survey (d + 6) b 84 [some (.inr (some 33)), some (.inr (some 28)), none, some (.inl v3), some (.inl v4)] [] h Q := by
  refine mw_iload (pc' := 86) dX0_survey_84 rfl rfl ?_
  refine mw_bipush (pc' := 88) (v := 32) dX0_survey_86 rfl (by decide) ?_
  refine mw_icmp_ge (pc' := 91) (tgt := 143) dX0_survey_88 rfl (by decide) (fun c13 => ?_) (fun c13 => ?_)
  · replace K := K.1 c13
    refine mw_iinc (pc' := 146) (v := v3 + 1) dX0_survey_143 rfl (by decide) rfl rfl ?_
    show mW _ _ _ _ _ [some (.inr (some 33)), some (.inr (some 28)), none, some (.inl (v3 + 1)), some (.inl v4)] _ _ _
    refine mw_goto (tgt := 37) dX0_survey_146 (by decide) ?_
    refine mw_weak (ls' := [some (.inr (some 33)), some (.inr (some 28)), none, some (.inl (v3 + 1)), none]) ?_ ?_
    · intro i v hv; match i, hv with
      | 0, hv => exact hv
      | 1, hv => exact hv
      | 2, hv => cases hv
      | 3, hv => exact hv
      | 4, hv => cases hv
      | n + 5, hv => cases hv
    exact K
  · replace K := K.2 c13
    refine mw_aload_n (pc' := 92) dX0_survey_91 rfl rfl ?_
    refine mw_getR (pc' := 95) dX0_survey_92 rfl flX0_17 rfl (skT_33 hS) ?_
    rw [skR_33_3 hS]
    refine mw_iload (pc' := 97) dX0_survey_95 rfl rfl ?_
    refine mw_dup2 (pc' := 98) dX0_survey_97 rfl ?_
    obtain ⟨o1, K⟩ := K
    refine mw_ialdL (pc' := 99) dX0_survey_98 rfl (skT_35 hS) (skL_35 hS) o1 ?_
    refine mw_aload_n (pc' := 100) dX0_survey_99 rfl rfl ?_
    refine mw_getR (pc' := 103) dX0_survey_100 rfl flX0_11 rfl (skT_33 hS) ?_
    rw [skR_33_0 hS]
    refine mw_iload_n (pc' := 104) dX0_survey_103 rfl rfl ?_
    obtain ⟨o2, K⟩ := K
    refine mw_aaldL (pc' := 105) dX0_survey_104 rfl (t := 0) (by decide) (skT_34 hS) (skL_34 hS) o2 ?_
    obtain ⟨y3, ey3, ty3, K⟩ := K
    rw [ey3]
    refine mw_getR (pc' := 108) dX0_survey_105 rfl flX0_69 rfl (ty3) ?_
    rw [skBR_1_5 hS ty3]
    refine mw_iload (pc' := 110) dX0_survey_108 rfl rfl ?_
    obtain ⟨o4, K⟩ := K
    refine mw_ialdL (pc' := 111) dX0_survey_110 rfl (skBT_1_1 hS ty3) (skBL_1_1 hS ty3) o4 ?_
    refine mw_iand (pc' := 112) dX0_survey_111 rfl ?_
    obtain ⟨o5, K⟩ := K
    refine mw_iastK (pc' := 113) dX0_survey_112 rfl (skT_35 hS) (skL_35 hS) o5 hS (fun h6 eh6 hS => ?_)
    replace K := K h6 eh6
    have ty3 : mT h6 y3 = 2 := by rw [eh6]; exact ty3
    refine mw_aload_n (pc' := 114) dX0_survey_113 rfl rfl ?_
    refine mw_getR (pc' := 117) dX0_survey_114 rfl flX0_21 rfl (skT_33 hS) ?_
    rw [skR_33_4 hS]
    refine mw_iload (pc' := 119) dX0_survey_117 rfl rfl ?_
    refine mw_dup2 (pc' := 120) dX0_survey_119 rfl ?_
    obtain ⟨o7, K⟩ := K
    refine mw_ialdL (pc' := 121) dX0_survey_120 rfl (skT_36 hS) (skL_36 hS) o7 ?_
    refine mw_aload_n (pc' := 122) dX0_survey_121 rfl rfl ?_
    refine mw_getR (pc' := 125) dX0_survey_122 rfl flX0_11 rfl (skT_33 hS) ?_
    rw [skR_33_0 hS]
    refine mw_iload_n (pc' := 126) dX0_survey_125 rfl rfl ?_
    obtain ⟨o8, K⟩ := K
    refine mw_aaldL (pc' := 127) dX0_survey_126 rfl (t := 0) (by decide) (skT_34 hS) (skL_34 hS) o8 ?_
    obtain ⟨y9, ey9, ty9, K⟩ := K
    rw [ey9]
    refine mw_getR (pc' := 130) dX0_survey_127 rfl flX0_69 rfl (ty9) ?_
    rw [skBR_1_5 hS ty9]
    refine mw_iload (pc' := 132) dX0_survey_130 rfl rfl ?_
    obtain ⟨o10, K⟩ := K
    refine mw_ialdL (pc' := 133) dX0_survey_132 rfl (skBT_1_1 hS ty9) (skBL_1_1 hS ty9) o10 ?_
    refine mw_iconst (pc' := 134) (v := (-1)) dX0_survey_133 rfl (by decide) ?_
    refine mw_ixorM (pc' := 135) dX0_survey_134 rfl ?_
    refine mw_iand (pc' := 136) dX0_survey_135 rfl ?_
    obtain ⟨o11, K⟩ := K
    refine mw_iastK (pc' := 137) dX0_survey_136 rfl (skT_36 hS) (skL_36 hS) o11 hS (fun h12 eh12 hS => ?_)
    replace K := K h12 eh12
    have ty3 : mT h12 y3 = 2 := by rw [eh12]; exact ty3
    have ty9 : mT h12 y9 = 2 := by rw [eh12]; exact ty9
    refine mw_iinc (pc' := 140) (v := v4 + 1) dX0_survey_137 rfl (by decide) rfl rfl ?_
    show mW _ _ _ _ _ [some (.inr (some 33)), some (.inr (some 28)), none, some (.inl v3), some (.inl (v4 + 1))] _ _ _
    refine mw_goto (tgt := 84) dX0_survey_140 (by decide) ?_
    exact K

set_option maxRecDepth 100000 in
set_option maxHeartbeats 4000000 in
theorem qX0_isSureWater {G : mG} {d : Nat} {b : Nat × Nat} {h : mH} {Q : Option mV → mH → Prop} (v1 : Int32) (v2 : Int32) (hS : mSk h)
    (K : vp_in v2 32 ∧ ∀ w2 : Int32, w2 = (if ¬ ((m_ushr (mI h 36 v2.toNatClampNeg) v1) &&& 1) = 1 then 0 else 1) → Q (some (.inl w2)) h) : mC G kX0_isSureWater d b [.inr (some 33), .inl v1, .inl v2] h Q := by
  refine mC_in rfl (Nat.le_of_ble_eq_true rfl) ?_
  show mW _ _ _ _ _ [some (.inr (some 33)), some (.inl v1), some (.inl v2)] _ _ _
  refine mw_aload_n (pc' := 1) dX0_isSureWater_0 rfl rfl ?_
  refine mw_getR (pc' := 4) dX0_isSureWater_1 rfl flX0_21 rfl (skT_33 hS) ?_
  rw [skR_33_4 hS]
  refine mw_iload_n (pc' := 5) dX0_isSureWater_4 rfl rfl ?_
  obtain ⟨o1, K⟩ := K
  refine mw_ialdL (pc' := 6) dX0_isSureWater_5 rfl (skT_36 hS) (skL_36 hS) o1 ?_
  refine mw_iload_n (pc' := 7) dX0_isSureWater_6 rfl rfl ?_
  refine mw_iushrM (pc' := 8) dX0_isSureWater_7 rfl ?_
  refine mw_iconst (pc' := 9) (v := 1) dX0_isSureWater_8 rfl (by decide) ?_
  refine mw_iand (pc' := 10) dX0_isSureWater_9 rfl ?_
  refine mw_iconst (pc' := 11) (v := 1) dX0_isSureWater_10 rfl (by decide) ?_
  have J3 : ∀ w2 : Int32, w2 = (if ¬ ((m_ushr (mI h 36 v2.toNatClampNeg) v1) &&& 1) = 1 then 0 else 1) → mW G kX0_isSureWater d b 19 [some (.inr (some 33)), some (.inl v1), some (.inl v2)] ([.inl w2]) h Q := by
    intro w2 ew2
    replace K := K w2 ew2
    exact mw_iret dX0_isSureWater_19 rfl (m_boolN (by rw [ew2]; exact (m_boolI m_bool0 m_bool1))) K
  refine mw_icmp_ne (pc' := 14) (tgt := 18) dX0_isSureWater_11 rfl (by decide) (fun c4 => ?_) (fun c4 => ?_)
  · refine mw_iconst (pc' := 19) (v := 0) dX0_isSureWater_18 rfl (by decide) ?_
    exact J3 _ (by rw [if_pos c4])
  · refine mw_iconst (pc' := 15) (v := 1) dX0_isSureWater_14 rfl (by decide) ?_
    refine mw_goto (tgt := 19) dX0_isSureWater_15 (by decide) ?_
    exact J3 _ (by rw [if_neg (fun z => z c4)])

set_option maxRecDepth 100000 in
set_option maxHeartbeats 4000000 in
theorem qX0_lowestFitting {G : mG} {d : Nat} {b : Nat × Nat} {h : mH} {Q : Option mV → mH → Prop} (v1 : Int32) (v2 : Int32) (v3 : Int32) (hS : mSk h)
    (K : mW G kX0_lowestFitting (d + 1) b 3 [some (.inr (some 33)), some (.inl v1), some (.inl v2), some (.inl v3), some (.inl 0)] [] h Q) : mC G kX0_lowestFitting (d + 1) b [.inr (some 33), .inl v1, .inl v2, .inl v3] h Q := by
  refine mC_in rfl (Nat.le_of_ble_eq_true rfl) ?_
  show mW _ _ _ _ _ [some (.inr (some 33)), some (.inl v1), some (.inl v2), some (.inl v3), none] _ _ _
  refine mw_iconst (pc' := 1) (v := 0) dX0_lowestFitting_0 rfl (by decide) ?_
  refine mw_istore (pc' := 3) dX0_lowestFitting_1 rfl (by decide) ?_
  show mW _ _ _ _ _ [some (.inr (some 33)), some (.inl v1), some (.inl v2), some (.inl v3), some (.inl 0)] _ _ _
  exact K

set_option maxRecDepth 100000 in
set_option maxHeartbeats 4000000 in
theorem qX0_lowestFitting_3 {G : mG} {d : Nat} {b : Nat × Nat} {h : mH} {Q : Option mV → mH → Prop} (v1 : Int32) (v2 : Int32) (v3 : Int32) (v4 : Int32) (hS : mSk h)
    (K : (((mI h 33 1) ≤ v4 → Q (some (.inl (-1))) h) ∧ (¬ ((mI h 33 1) ≤ v4) → ((¬ ((m_ushr (mI h 33 2) v4) &&& 1) = 1 → mW G kX0_lowestFitting (d + 1) b 3 [some (.inr (some 33)), some (.inl v1), some (.inl v2), some (.inl v3), some (.inl (v4 + 1))] [] h Q) ∧ (((m_ushr (mI h 33 2) v4) &&& 1) = 1 → vp_in v4 8 ∧ ∃ y2, mR h 34 v4.toNatClampNeg = some y2 ∧ mT h y2 = 2 ∧ mC G kX1_isLand d (0, 0) [.inr (some y2), .inl v1, .inl v2] h (fun r h3 => ∃ x4, r = some (.inl x4) ∧ mSk h3 ∧ mT h3 y2 = 2 ∧ ((¬ x4 = v3 → mW G kX0_lowestFitting (d + 1) b 3 [some (.inr (some 33)), some (.inl v1), some (.inl v2), some (.inl v3), some (.inl (v4 + 1))] [] h3 Q) ∧ (x4 = v3 → Q (some (.inl v4)) h3)))))))) : mW G kX0_lowestFitting (d + 1) b 3 [some (.inr (some 33)), some (.inl v1), some (.inl v2), some (.inl v3), some (.inl v4)] [] h Q := by
  refine mw_iload (pc' := 5) dX0_lowestFitting_3 rfl rfl ?_
  refine mw_aload_n (pc' := 6) dX0_lowestFitting_5 rfl rfl ?_
  refine mw_getI (pc' := 9) dX0_lowestFitting_6 rfl flX0_27 rfl (skT_33 hS) ?_
  refine mw_icmp_ge (pc' := 12) (tgt := 50) dX0_lowestFitting_9 rfl (by decide) (fun c7 => ?_) (fun c7 => ?_)
  · replace K := K.1 c7
    refine mw_iconst (pc' := 51) (v := (-1)) dX0_lowestFitting_50 rfl (by decide) ?_
    exact mw_iret dX0_lowestFitting_51 rfl rfl K
  · replace K := K.2 c7
    refine mw_aload_n (pc' := 13) dX0_lowestFitting_12 rfl rfl ?_
    refine mw_getI (pc' := 16) dX0_lowestFitting_13 rfl flX0_52 rfl (skT_33 hS) ?_
    refine mw_iload (pc' := 18) dX0_lowestFitting_16 rfl rfl ?_
    refine mw_iushrM (pc' := 19) dX0_lowestFitting_18 rfl ?_
    refine mw_iconst (pc' := 20) (v := 1) dX0_lowestFitting_19 rfl (by decide) ?_
    refine mw_iand (pc' := 21) dX0_lowestFitting_20 rfl ?_
    refine mw_iconst (pc' := 22) (v := 1) dX0_lowestFitting_21 rfl (by decide) ?_
    refine mw_icmp_ne (pc' := 25) (tgt := 44) dX0_lowestFitting_22 rfl (by decide) (fun c6 => ?_) (fun c6 => ?_)
    · replace K := K.1 c6
      refine mw_iinc (pc' := 47) (v := v4 + 1) dX0_lowestFitting_44 rfl (by decide) rfl rfl ?_
      show mW _ _ _ _ _ [some (.inr (some 33)), some (.inl v1), some (.inl v2), some (.inl v3), some (.inl (v4 + 1))] _ _ _
      refine mw_goto (tgt := 3) dX0_lowestFitting_47 (by decide) ?_
      exact K
    · replace K := K.2 c6
      refine mw_aload_n (pc' := 26) dX0_lowestFitting_25 rfl rfl ?_
      refine mw_getR (pc' := 29) dX0_lowestFitting_26 rfl flX0_11 rfl (skT_33 hS) ?_
      rw [skR_33_0 hS]
      refine mw_iload (pc' := 31) dX0_lowestFitting_29 rfl rfl ?_
      obtain ⟨o1, K⟩ := K
      refine mw_aaldL (pc' := 32) dX0_lowestFitting_31 rfl (t := 0) (by decide) (skT_34 hS) (skL_34 hS) o1 ?_
      refine mw_iload_n (pc' := 33) dX0_lowestFitting_32 rfl rfl ?_
      refine mw_iload_n (pc' := 34) dX0_lowestFitting_33 rfl rfl ?_
      obtain ⟨y2, ey2, ty2, K⟩ := K
      rw [ey2]
      refine mw_callV (pc' := 37) (b' := (0, 0)) (b1 := b) (av := [.inl v1, .inl v2]) (rest := []) dX0_lowestFitting_34 rfl lkX0_72 rfl rfl (Nat.le_of_ble_eq_true rfl) ⟨Nat.le_of_eq (Nat.zero_add _), Nat.le_of_eq (Nat.zero_add _)⟩ (ty2) ?_
      refine mC_mono (fun r h3 hr => ?_) K
      obtain ⟨x4, rfl, hS, ty2, K⟩ := hr
      show mW _ _ _ _ _ _ [.inl x4] _ _
      refine mw_iload_n (pc' := 38) dX0_lowestFitting_37 rfl rfl ?_
      refine mw_icmp_ne (pc' := 41) (tgt := 44) dX0_lowestFitting_38 rfl (by decide) (fun c5 => ?_) (fun c5 => ?_)
      · replace K := K.1 c5
        refine mw_iinc (pc' := 47) (v := v4 + 1) dX0_lowestFitting_44 rfl (by decide) rfl rfl ?_
        show mW _ _ _ _ _ [some (.inr (some 33)), some (.inl v1), some (.inl v2), some (.inl v3), some (.inl (v4 + 1))] _ _ _
        refine mw_goto (tgt := 3) dX0_lowestFitting_47 (by decide) ?_
        exact K
      · replace K := K.2 c5
        refine mw_iload (pc' := 43) dX0_lowestFitting_41 rfl rfl ?_
        exact mw_iret dX0_lowestFitting_43 rfl rfl K

set_option maxRecDepth 100000 in
set_option maxHeartbeats 4000000 in
theorem qX0_fillPool {G : mG} {d : Nat} {b : Nat × Nat} {h : mH} {Q : Option mV → mH → Prop} (v1 : Int32) (v2 : Int32) (hS : mSk h)
    (K : mC G kJ7_fill_53178 (d + 1) (0, 0) [.inr (some 37), .inl 0] h (fun r h1 => r = none ∧ mSk h1 ∧ vp_in v2 32 ∧ vp_in v2 32 ∧ ∀ h4, h4 = mSI h1 37 v2.toNatClampNeg ((m_shl 1 v1) &&& (mI h1 36 v2.toNatClampNeg)) → vp_in v2 32 ∧ ∀ w6 : Int32, w6 = (if (mI h4 37 v2.toNatClampNeg) = 0 then 0 else 1) → mW G kX0_fillPool (d + 2) b 42 [some (.inr (some 33)), none, none, some (.inl w6), some (.inl 0), none] [] h4 Q)) : mC G kX0_fillPool (d + 2) b [.inr (some 33), .inl v1, .inl v2] h Q := by
  refine mC_in rfl (Nat.le_of_ble_eq_true rfl) ?_
  show mW _ _ _ _ _ [some (.inr (some 33)), some (.inl v1), some (.inl v2), none, none, none] _ _ _
  refine mw_aload_n (pc' := 1) dX0_fillPool_0 rfl rfl ?_
  refine mw_getR (pc' := 4) dX0_fillPool_1 rfl flX0_24 rfl (skT_33 hS) ?_
  rw [skR_33_5 hS]
  refine mw_iconst (pc' := 5) (v := 0) dX0_fillPool_4 rfl (by decide) ?_
  refine mw_callS (pc' := 8) (b' := (0, 0)) (b1 := b) (av := [.inr (some 37), .inl 0]) (rest := []) dX0_fillPool_5 rfl lkX0_55 rfl rfl (Nat.le_of_ble_eq_true rfl) ⟨Nat.le_of_eq (Nat.zero_add _), Nat.le_of_eq (Nat.zero_add _)⟩ ?_
  refine mC_mono (fun r h1 hr => ?_) K
  obtain ⟨rfl, hS, K⟩ := hr
  show mW _ _ _ _ _ _ [] _ _
  refine mw_aload_n (pc' := 9) dX0_fillPool_8 rfl rfl ?_
  refine mw_getR (pc' := 12) dX0_fillPool_9 rfl flX0_24 rfl (skT_33 hS) ?_
  rw [skR_33_5 hS]
  refine mw_iload_n (pc' := 13) dX0_fillPool_12 rfl rfl ?_
  refine mw_iconst (pc' := 14) (v := 1) dX0_fillPool_13 rfl (by decide) ?_
  refine mw_iload_n (pc' := 15) dX0_fillPool_14 rfl rfl ?_
  refine mw_ishlM (pc' := 16) dX0_fillPool_15 rfl ?_
  refine mw_aload_n (pc' := 17) dX0_fillPool_16 rfl rfl ?_
  refine mw_getR (pc' := 20) dX0_fillPool_17 rfl flX0_21 rfl (skT_33 hS) ?_
  rw [skR_33_4 hS]
  refine mw_iload_n (pc' := 21) dX0_fillPool_20 rfl rfl ?_
  obtain ⟨o2, K⟩ := K
  refine mw_ialdL (pc' := 22) dX0_fillPool_21 rfl (skT_36 hS) (skL_36 hS) o2 ?_
  refine mw_iand (pc' := 23) dX0_fillPool_22 rfl ?_
  obtain ⟨o3, K⟩ := K
  refine mw_iastK (pc' := 24) dX0_fillPool_23 rfl (skT_37 hS) (skL_37 hS) o3 hS (fun h4 eh4 hS => ?_)
  replace K := K h4 eh4
  refine mw_aload_n (pc' := 25) dX0_fillPool_24 rfl rfl ?_
  refine mw_getR (pc' := 28) dX0_fillPool_25 rfl flX0_24 rfl (skT_33 hS) ?_
  rw [skR_33_5 hS]
  refine mw_iload_n (pc' := 29) dX0_fillPool_28 rfl rfl ?_
  obtain ⟨o5, K⟩ := K
  refine mw_ialdL (pc' := 30) dX0_fillPool_29 rfl (skT_37 hS) (skL_37 hS) o5 ?_
  have J7 : ∀ w6 : Int32, w6 = (if (mI h4 37 v2.toNatClampNeg) = 0 then 0 else 1) → mW G kX0_fillPool (d + 2) b 38 [some (.inr (some 33)), some (.inl v1), some (.inl v2), none, none, none] ([.inl w6]) h4 Q := by
    intro w6 ew6
    replace K := K w6 ew6
    refine mw_istore_n (pc' := 39) dX0_fillPool_38 rfl (by decide) ?_
    show mW _ _ _ _ _ [some (.inr (some 33)), some (.inl v1), some (.inl v2), some (.inl w6), none, none] _ _ _
    refine mw_iconst (pc' := 40) (v := 0) dX0_fillPool_39 rfl (by decide) ?_
    refine mw_istore (pc' := 42) dX0_fillPool_40 rfl (by decide) ?_
    show mW _ _ _ _ _ [some (.inr (some 33)), some (.inl v1), some (.inl v2), some (.inl w6), some (.inl 0), none] _ _ _
    refine mw_weak (ls' := [some (.inr (some 33)), none, none, some (.inl w6), some (.inl 0), none]) ?_ ?_
    · intro i v hv; match i, hv with
      | 0, hv => exact hv
      | 1, hv => cases hv
      | 2, hv => cases hv
      | 3, hv => exact hv
      | 4, hv => exact hv
      | 5, hv => cases hv
      | n + 6, hv => cases hv
    exact K
  refine mw_if_eq (pc' := 33) (tgt := 37) dX0_fillPool_30 rfl (by decide) (fun c8 => ?_) (fun c8 => ?_)
  · refine mw_iconst (pc' := 38) (v := 0) dX0_fillPool_37 rfl (by decide) ?_
    exact J7 _ (by rw [if_pos c8])
  · refine mw_iconst (pc' := 34) (v := 1) dX0_fillPool_33 rfl (by decide) ?_
    refine mw_goto (tgt := 38) dX0_fillPool_34 (by decide) ?_
    exact J7 _ (by rw [if_neg c8])

set_option maxRecDepth 100000 in
set_option maxHeartbeats 4000000 in
theorem qX0_fillPool_42 {G : mG} {d : Nat} {b : Nat × Nat} {h : mH} {Q : Option mV → mH → Prop} (v3 : Int32) (v4 : Int32) (hS : mSk h)
    (K : ((v3 = 0 → Q none h) ∧ (¬ v3 = 0 → ((1024 ≤ v4 → Q none h) ∧ (¬ (1024 ≤ v4) → mW G kX0_fillPool (d + 2) b 59 [some (.inr (some 33)), none, none, some (.inl 0), some (.inl v4), some (.inl 0)] [] h Q))))) : mW G kX0_fillPool (d + 2) b 42 [some (.inr (some 33)), none, none, some (.inl v3), some (.inl v4), none] [] h Q := by
  refine mw_iload_n (pc' := 43) dX0_fillPool_42 rfl rfl ?_
  refine mw_if_eq (pc' := 46) (tgt := 112) dX0_fillPool_43 rfl (by decide) (fun c2 => ?_) (fun c2 => ?_)
  · replace K := K.1 c2
    exact mw_ret dX0_fillPool_112 rfl K
  · replace K := K.2 c2
    refine mw_iload (pc' := 48) dX0_fillPool_46 rfl rfl ?_
    refine mw_sipush (pc' := 51) (v := 1024) dX0_fillPool_48 rfl (by decide) ?_
    refine mw_icmp_ge (pc' := 54) (tgt := 112) dX0_fillPool_51 rfl (by decide) (fun c1 => ?_) (fun c1 => ?_)
    · replace K := K.1 c1
      exact mw_ret dX0_fillPool_112 rfl K
    · replace K := K.2 c1
      refine mw_iconst (pc' := 55) (v := 0) dX0_fillPool_54 rfl (by decide) ?_
      refine mw_istore_n (pc' := 56) dX0_fillPool_55 rfl (by decide) ?_
      show mW _ _ _ _ _ [some (.inr (some 33)), none, none, some (.inl 0), some (.inl v4), none] _ _ _
      refine mw_iconst (pc' := 57) (v := 0) dX0_fillPool_56 rfl (by decide) ?_
      refine mw_istore (pc' := 59) dX0_fillPool_57 rfl (by decide) ?_
      show mW _ _ _ _ _ [some (.inr (some 33)), none, none, some (.inl 0), some (.inl v4), some (.inl 0)] _ _ _
      exact K

set_option maxRecDepth 100000 in
set_option maxHeartbeats 4000000 in
theorem qX0_fillPool_59 {G : mG} {d : Nat} {b : Nat × Nat} {h : mH} {Q : Option mV → mH → Prop} (v3 : Int32) (v4 : Int32) (v5 : Int32) (hS : mSk h)
    (K : ((64 ≤ v5 → mW G kX0_fillPool (d + 2) b 42 [some (.inr (some 33)), none, none, some (.inl v3), some (.inl (v4 + 1)), none] [] h Q) ∧ (¬ (64 ≤ v5) → ∀ w1 : Int32, w1 = (if 32 ≤ v5 then (63 - v5) else v5) → mC G kX0_growPool (d + 1) (0, 0) [.inr (some 33), .inl w1] h (fun r h2 => ∃ x3, r = some (.inl x3) ∧ mSk h2 ∧ ∀ w4 : Int32, w4 = (if ¬ x3 = 0 then 1 else (if v3 = 0 then 0 else 1)) → mW G kX0_fillPool (d + 2) b 59 [some (.inr (some 33)), none, none, some (.inl w4), some (.inl v4), some (.inl (v5 + 1))] [] h2 Q)))) : mW G kX0_fillPool (d + 2) b 59 [some (.inr (some 33)), none, none, some (.inl v3), some (.inl v4), some (.inl v5)] [] h Q := by
  refine mw_iload (pc' := 61) dX0_fillPool_59 rfl rfl ?_
  refine mw_bipush (pc' := 63) (v := 64) dX0_fillPool_61 rfl (by decide) ?_
  refine mw_icmp_ge (pc' := 66) (tgt := 106) dX0_fillPool_63 rfl (by decide) (fun c10 => ?_) (fun c10 => ?_)
  · replace K := K.1 c10
    refine mw_iinc (pc' := 109) (v := v4 + 1) dX0_fillPool_106 rfl (by decide) rfl rfl ?_
    show mW _ _ _ _ _ [some (.inr (some 33)), none, none, some (.inl v3), some (.inl (v4 + 1)), some (.inl v5)] _ _ _
    refine mw_goto (tgt := 42) dX0_fillPool_109 (by decide) ?_
    refine mw_weak (ls' := [some (.inr (some 33)), none, none, some (.inl v3), some (.inl (v4 + 1)), none]) ?_ ?_
    · intro i v hv; match i, hv with
      | 0, hv => exact hv
      | 1, hv => cases hv
      | 2, hv => cases hv
      | 3, hv => exact hv
      | 4, hv => exact hv
      | 5, hv => cases hv
      | n + 6, hv => cases hv
    exact K
  · replace K := K.2 c10
    refine mw_aload_n (pc' := 67) dX0_fillPool_66 rfl rfl ?_
    refine mw_iload (pc' := 69) dX0_fillPool_67 rfl rfl ?_
    refine mw_bipush (pc' := 71) (v := 32) dX0_fillPool_69 rfl (by decide) ?_
    have J8 : ∀ w1 : Int32, w1 = (if 32 ≤ v5 then (63 - v5) else v5) → mW G kX0_fillPool (d + 2) b 84 [some (.inr (some 33)), none, none, some (.inl v3), some (.inl v4), some (.inl v5)] ([.inl w1, .inr (some 33)]) h Q := by
      intro w1 ew1
      replace K := K w1 ew1
      refine mw_callV (pc' := 87) (b' := (0, 0)) (b1 := b) (av := [.inl w1]) (rest := []) dX0_fillPool_84 rfl lkX0_76 rfl rfl (Nat.le_of_ble_eq_true rfl) ⟨Nat.le_of_eq (Nat.zero_add _), Nat.le_of_eq (Nat.zero_add _)⟩ (skT_33 hS) ?_
      refine mC_mono (fun r h2 hr => ?_) K
      obtain ⟨x3, rfl, hS, K⟩ := hr
      show mW _ _ _ _ _ _ [.inl x3] _ _
      have J5 : ∀ w4 : Int32, w4 = (if ¬ x3 = 0 then 1 else (if v3 = 0 then 0 else 1)) → mW G kX0_fillPool (d + 2) b 99 [some (.inr (some 33)), none, none, some (.inl v3), some (.inl v4), some (.inl v5)] ([.inl w4]) h2 Q := by
        intro w4 ew4
        replace K := K w4 ew4
        refine mw_istore_n (pc' := 100) dX0_fillPool_99 rfl (by decide) ?_
        show mW _ _ _ _ _ [some (.inr (some 33)), none, none, some (.inl w4), some (.inl v4), some (.inl v5)] _ _ _
        refine mw_iinc (pc' := 103) (v := v5 + 1) dX0_fillPool_100 rfl (by decide) rfl rfl ?_
        show mW _ _ _ _ _ [some (.inr (some 33)), none, none, some (.inl w4), some (.inl v4), some (.inl (v5 + 1))] _ _ _
        refine mw_goto (tgt := 59) dX0_fillPool_103 (by decide) ?_
        exact K
      refine mw_if_ne (pc' := 90) (tgt := 94) dX0_fillPool_87 rfl (by decide) (fun c6 => ?_) (fun c6 => ?_)
      · refine mw_iconst (pc' := 95) (v := 1) dX0_fillPool_94 rfl (by decide) ?_
        refine mw_goto (tgt := 99) dX0_fillPool_95 (by decide) ?_
        exact J5 _ (by rw [if_pos c6])
      · refine mw_iload_n (pc' := 91) dX0_fillPool_90 rfl rfl ?_
        refine mw_if_eq (pc' := 94) (tgt := 98) dX0_fillPool_91 rfl (by decide) (fun c7 => ?_) (fun c7 => ?_)
        · refine mw_iconst (pc' := 99) (v := 0) dX0_fillPool_98 rfl (by decide) ?_
          exact J5 _ (by rw [if_neg (fun z => z c6), if_pos c7])
        · refine mw_iconst (pc' := 95) (v := 1) dX0_fillPool_94 rfl (by decide) ?_
          refine mw_goto (tgt := 99) dX0_fillPool_95 (by decide) ?_
          exact J5 _ (by rw [if_neg (fun z => z c6), if_neg c7])
    refine mw_icmp_ge (pc' := 74) (tgt := 79) dX0_fillPool_71 rfl (by decide) (fun c9 => ?_) (fun c9 => ?_)
    · refine mw_bipush (pc' := 81) (v := 63) dX0_fillPool_79 rfl (by decide) ?_
      refine mw_iload (pc' := 83) dX0_fillPool_81 rfl rfl ?_
      refine mw_isub (pc' := 84) dX0_fillPool_83 rfl ?_
      exact J8 _ (by rw [if_pos c9])
    · refine mw_iload (pc' := 76) dX0_fillPool_74 rfl rfl ?_
      refine mw_goto (tgt := 84) dX0_fillPool_76 (by decide) ?_
      exact J8 _ (by rw [if_neg c9])

set_option maxRecDepth 100000 in
set_option maxHeartbeats 4000000 in
theorem qX0_growPool {G : mG} {d : Nat} {b : Nat × Nat} {h : mH} {Q : Option mV → mH → Prop} (v1 : Int32) (hS : mSk h)
    (K : vp_in v1 32 ∧ mC G kX0_besidePool d (0, 0) [.inr (some 33), .inl v1] h (fun r h2 => ∃ x3, r = some (.inl x3) ∧ mSk h2 ∧ vp_in v1 32 ∧ mW G kX0_growPool (d + 1) b 28 [some (.inr (some 33)), some (.inl v1), some (.inl (mI h 37 v1.toNatClampNeg)), some (.inl 0), some (.inl (((mI h 37 v1.toNatClampNeg) ||| x3) &&& (mI h2 36 v1.toNatClampNeg))), some (.inl 0)] [] h2 Q)) : mC G kX0_growPool (d + 1) b [.inr (some 33), .inl v1] h Q := by
  refine mC_in rfl (Nat.le_of_ble_eq_true rfl) ?_
  show mW _ _ _ _ _ [some (.inr (some 33)), some (.inl v1), none, none, none, none] _ _ _
  refine mw_aload_n (pc' := 1) dX0_growPool_0 rfl rfl ?_
  refine mw_getR (pc' := 4) dX0_growPool_1 rfl flX0_24 rfl (skT_33 hS) ?_
  rw [skR_33_5 hS]
  refine mw_iload_n (pc' := 5) dX0_growPool_4 rfl rfl ?_
  obtain ⟨o1, K⟩ := K
  refine mw_ialdL (pc' := 6) dX0_growPool_5 rfl (skT_37 hS) (skL_37 hS) o1 ?_
  refine mw_istore_n (pc' := 7) dX0_growPool_6 rfl (by decide) ?_
  show mW _ _ _ _ _ [some (.inr (some 33)), some (.inl v1), some (.inl (mI h 37 v1.toNatClampNeg)), none, none, none] _ _ _
  refine mw_iconst (pc' := 8) (v := 0) dX0_growPool_7 rfl (by decide) ?_
  refine mw_istore_n (pc' := 9) dX0_growPool_8 rfl (by decide) ?_
  show mW _ _ _ _ _ [some (.inr (some 33)), some (.inl v1), some (.inl (mI h 37 v1.toNatClampNeg)), some (.inl 0), none, none] _ _ _
  refine mw_iload_n (pc' := 10) dX0_growPool_9 rfl rfl ?_
  refine mw_aload_n (pc' := 11) dX0_growPool_10 rfl rfl ?_
  refine mw_iload_n (pc' := 12) dX0_growPool_11 rfl rfl ?_
  refine mw_callV (pc' := 15) (b' := (0, 0)) (b1 := b) (av := [.inl v1]) (rest := [.inl (mI h 37 v1.toNatClampNeg)]) dX0_growPool_12 rfl lkX0_80 rfl rfl (Nat.le_of_ble_eq_true rfl) ⟨Nat.le_of_eq (Nat.zero_add _), Nat.le_of_eq (Nat.zero_add _)⟩ (skT_33 hS) ?_
  refine mC_mono (fun r h2 hr => ?_) K
  obtain ⟨x3, rfl, hS, K⟩ := hr
  show mW _ _ _ _ _ _ [.inl x3, .inl (mI h 37 v1.toNatClampNeg)] _ _
  refine mw_ior (pc' := 16) dX0_growPool_15 rfl ?_
  refine mw_aload_n (pc' := 17) dX0_growPool_16 rfl rfl ?_
  refine mw_getR (pc' := 20) dX0_growPool_17 rfl flX0_21 rfl (skT_33 hS) ?_
  rw [skR_33_4 hS]
  refine mw_iload_n (pc' := 21) dX0_growPool_20 rfl rfl ?_
  obtain ⟨o4, K⟩ := K
  refine mw_ialdL (pc' := 22) dX0_growPool_21 rfl (skT_36 hS) (skL_36 hS) o4 ?_
  refine mw_iand (pc' := 23) dX0_growPool_22 rfl ?_
  refine mw_istore (pc' := 25) dX0_growPool_23 rfl (by decide) ?_
  show mW _ _ _ _ _ [some (.inr (some 33)), some (.inl v1), some (.inl (mI h 37 v1.toNatClampNeg)), some (.inl 0), some (.inl (((mI h 37 v1.toNatClampNeg) ||| x3) &&& (mI h2 36 v1.toNatClampNeg))), none] _ _ _
  refine mw_iconst (pc' := 26) (v := 0) dX0_growPool_25 rfl (by decide) ?_
  refine mw_istore (pc' := 28) dX0_growPool_26 rfl (by decide) ?_
  show mW _ _ _ _ _ [some (.inr (some 33)), some (.inl v1), some (.inl (mI h 37 v1.toNatClampNeg)), some (.inl 0), some (.inl (((mI h 37 v1.toNatClampNeg) ||| x3) &&& (mI h2 36 v1.toNatClampNeg))), some (.inl 0)] _ _ _
  exact K

set_option maxRecDepth 100000 in
set_option maxHeartbeats 4000000 in
theorem qX0_growPool_28 {G : mG} {d : Nat} {b : Nat × Nat} {h : mH} {Q : Option mV → mH → Prop} (v1 : Int32) (v2 : Int32) (v3 : Int32) (v4 : Int32) (v5 : Int32) (hS : mSk h)
    (K : ((32 ≤ v5 → vp_in v1 32 ∧ ∀ h2, h2 = mSI h 37 v1.toNatClampNeg v4 → ∀ w3 : Int32, w3 = (if v4 = v2 then 0 else 1) → Q (some (.inl w3)) h2) ∧ (¬ (32 ≤ v5) → ((v4 = v3 → vp_in v1 32 ∧ ∀ h7, h7 = mSI h 37 v1.toNatClampNeg v4 → ∀ w8 : Int32, w8 = (if v4 = v2 then 0 else 1) → Q (some (.inl w8)) h7) ∧ (¬ v4 = v3 → vp_in v1 32 ∧ mW G kX0_growPool (d + 1) b 28 [some (.inr (some 33)), some (.inl v1), some (.inl v2), some (.inl v4), some (.inl (((v4 ||| (m_shl v4 1)) ||| (m_ushr v4 1)) &&& (mI h 36 v1.toNatClampNeg))), some (.inl (v5 + 1))] [] h Q))))) : mW G kX0_growPool (d + 1) b 28 [some (.inr (some 33)), some (.inl v1), some (.inl v2), some (.inl v3), some (.inl v4), some (.inl v5)] [] h Q := by
  refine mw_iload (pc' := 30) dX0_growPool_28 rfl rfl ?_
  refine mw_bipush (pc' := 32) (v := 32) dX0_growPool_30 rfl (by decide) ?_
  refine mw_icmp_ge (pc' := 35) (tgt := 68) dX0_growPool_32 rfl (by decide) (fun c13 => ?_) (fun c13 => ?_)
  · replace K := K.1 c13
    refine mw_aload_n (pc' := 69) dX0_growPool_68 rfl rfl ?_
    refine mw_getR (pc' := 72) dX0_growPool_69 rfl flX0_24 rfl (skT_33 hS) ?_
    rw [skR_33_5 hS]
    refine mw_iload_n (pc' := 73) dX0_growPool_72 rfl rfl ?_
    refine mw_iload (pc' := 75) dX0_growPool_73 rfl rfl ?_
    obtain ⟨o1, K⟩ := K
    refine mw_iastK (pc' := 76) dX0_growPool_75 rfl (skT_37 hS) (skL_37 hS) o1 hS (fun h2 eh2 hS => ?_)
    replace K := K h2 eh2
    refine mw_iload (pc' := 78) dX0_growPool_76 rfl rfl ?_
    refine mw_iload_n (pc' := 79) dX0_growPool_78 rfl rfl ?_
    have J4 : ∀ w3 : Int32, w3 = (if v4 = v2 then 0 else 1) → mW G kX0_growPool (d + 1) b 87 [some (.inr (some 33)), some (.inl v1), some (.inl v2), some (.inl v3), some (.inl v4), some (.inl v5)] ([.inl w3]) h2 Q := by
      intro w3 ew3
      replace K := K w3 ew3
      exact mw_iret dX0_growPool_87 rfl (m_boolN (by rw [ew3]; exact (m_boolI m_bool0 m_bool1))) K
    refine mw_icmp_eq (pc' := 82) (tgt := 86) dX0_growPool_79 rfl (by decide) (fun c5 => ?_) (fun c5 => ?_)
    · refine mw_iconst (pc' := 87) (v := 0) dX0_growPool_86 rfl (by decide) ?_
      exact J4 _ (by rw [if_pos c5])
    · refine mw_iconst (pc' := 83) (v := 1) dX0_growPool_82 rfl (by decide) ?_
      refine mw_goto (tgt := 87) dX0_growPool_83 (by decide) ?_
      exact J4 _ (by rw [if_neg c5])
  · replace K := K.2 c13
    refine mw_iload (pc' := 37) dX0_growPool_35 rfl rfl ?_
    refine mw_iload_n (pc' := 38) dX0_growPool_37 rfl rfl ?_
    refine mw_icmp_eq (pc' := 41) (tgt := 68) dX0_growPool_38 rfl (by decide) (fun c12 => ?_) (fun c12 => ?_)
    · replace K := K.1 c12
      refine mw_aload_n (pc' := 69) dX0_growPool_68 rfl rfl ?_
      refine mw_getR (pc' := 72) dX0_growPool_69 rfl flX0_24 rfl (skT_33 hS) ?_
      rw [skR_33_5 hS]
      refine mw_iload_n (pc' := 73) dX0_growPool_72 rfl rfl ?_
      refine mw_iload (pc' := 75) dX0_growPool_73 rfl rfl ?_
      obtain ⟨o6, K⟩ := K
      refine mw_iastK (pc' := 76) dX0_growPool_75 rfl (skT_37 hS) (skL_37 hS) o6 hS (fun h7 eh7 hS => ?_)
      replace K := K h7 eh7
      refine mw_iload (pc' := 78) dX0_growPool_76 rfl rfl ?_
      refine mw_iload_n (pc' := 79) dX0_growPool_78 rfl rfl ?_
      have J9 : ∀ w8 : Int32, w8 = (if v4 = v2 then 0 else 1) → mW G kX0_growPool (d + 1) b 87 [some (.inr (some 33)), some (.inl v1), some (.inl v2), some (.inl v3), some (.inl v4), some (.inl v5)] ([.inl w8]) h7 Q := by
        intro w8 ew8
        replace K := K w8 ew8
        exact mw_iret dX0_growPool_87 rfl (m_boolN (by rw [ew8]; exact (m_boolI m_bool0 m_bool1))) K
      refine mw_icmp_eq (pc' := 82) (tgt := 86) dX0_growPool_79 rfl (by decide) (fun c10 => ?_) (fun c10 => ?_)
      · refine mw_iconst (pc' := 87) (v := 0) dX0_growPool_86 rfl (by decide) ?_
        exact J9 _ (by rw [if_pos c10])
      · refine mw_iconst (pc' := 83) (v := 1) dX0_growPool_82 rfl (by decide) ?_
        refine mw_goto (tgt := 87) dX0_growPool_83 (by decide) ?_
        exact J9 _ (by rw [if_neg c10])
    · replace K := K.2 c12
      refine mw_iload (pc' := 43) dX0_growPool_41 rfl rfl ?_
      refine mw_istore_n (pc' := 44) dX0_growPool_43 rfl (by decide) ?_
      show mW _ _ _ _ _ [some (.inr (some 33)), some (.inl v1), some (.inl v2), some (.inl v4), some (.inl v4), some (.inl v5)] _ _ _
      refine mw_iload_n (pc' := 45) dX0_growPool_44 rfl rfl ?_
      refine mw_iload_n (pc' := 46) dX0_growPool_45 rfl rfl ?_
      refine mw_iconst (pc' := 47) (v := 1) dX0_growPool_46 rfl (by decide) ?_
      refine mw_ishlM (pc' := 48) dX0_growPool_47 rfl ?_
      refine mw_ior (pc' := 49) dX0_growPool_48 rfl ?_
      refine mw_iload_n (pc' := 50) dX0_growPool_49 rfl rfl ?_
      refine mw_iconst (pc' := 51) (v := 1) dX0_growPool_50 rfl (by decide) ?_
      refine mw_iushrM (pc' := 52) dX0_growPool_51 rfl ?_
      refine mw_ior (pc' := 53) dX0_growPool_52 rfl ?_
      refine mw_aload_n (pc' := 54) dX0_growPool_53 rfl rfl ?_
      refine mw_getR (pc' := 57) dX0_growPool_54 rfl flX0_21 rfl (skT_33 hS) ?_
      rw [skR_33_4 hS]
      refine mw_iload_n (pc' := 58) dX0_growPool_57 rfl rfl ?_
      obtain ⟨o11, K⟩ := K
      refine mw_ialdL (pc' := 59) dX0_growPool_58 rfl (skT_36 hS) (skL_36 hS) o11 ?_
      refine mw_iand (pc' := 60) dX0_growPool_59 rfl ?_
      refine mw_istore (pc' := 62) dX0_growPool_60 rfl (by decide) ?_
      show mW _ _ _ _ _ [some (.inr (some 33)), some (.inl v1), some (.inl v2), some (.inl v4), some (.inl (((v4 ||| (m_shl v4 1)) ||| (m_ushr v4 1)) &&& (mI h 36 v1.toNatClampNeg))), some (.inl v5)] _ _ _
      refine mw_iinc (pc' := 65) (v := v5 + 1) dX0_growPool_62 rfl (by decide) rfl rfl ?_
      show mW _ _ _ _ _ [some (.inr (some 33)), some (.inl v1), some (.inl v2), some (.inl v4), some (.inl (((v4 ||| (m_shl v4 1)) ||| (m_ushr v4 1)) &&& (mI h 36 v1.toNatClampNeg))), some (.inl (v5 + 1))] _ _ _
      refine mw_goto (tgt := 28) dX0_growPool_65 (by decide) ?_
      exact K

set_option maxRecDepth 100000 in
set_option maxHeartbeats 4000000 in
theorem qX0_besidePool {G : mG} {d : Nat} {b : Nat × Nat} {h : mH} {Q : Option mV → mH → Prop} (v1 : Int32) (hS : mSk h)
    (K : ((v1 ≤ 0 → ((31 ≤ v1 → Q (some (.inl (0 ||| 0))) h) ∧ (¬ (31 ≤ v1) → vp_in (v1 + 1) 32 ∧ Q (some (.inl (0 ||| (mI h 37 (v1 + 1).toNatClampNeg)))) h))) ∧ (¬ (v1 ≤ 0) → vp_in (v1 - 1) 32 ∧ ((31 ≤ v1 → Q (some (.inl ((mI h 37 (v1 - 1).toNatClampNeg) ||| 0))) h) ∧ (¬ (31 ≤ v1) → vp_in (v1 + 1) 32 ∧ Q (some (.inl ((mI h 37 (v1 - 1).toNatClampNeg) ||| (mI h 37 (v1 + 1).toNatClampNeg)))) h))))) : mC G kX0_besidePool d b [.inr (some 33), .inl v1] h Q := by
  refine mC_in rfl (Nat.le_of_ble_eq_true rfl) ?_
  show mW _ _ _ _ _ [some (.inr (some 33)), some (.inl v1), none, none] _ _ _
  refine mw_iload_n (pc' := 1) dX0_besidePool_0 rfl rfl ?_
  refine mw_if_le (pc' := 4) (tgt := 15) dX0_besidePool_1 rfl (by decide) (fun c6 => ?_) (fun c6 => ?_)
  · replace K := K.1 c6
    refine mw_iconst (pc' := 16) (v := 0) dX0_besidePool_15 rfl (by decide) ?_
    refine mw_istore_n (pc' := 17) dX0_besidePool_16 rfl (by decide) ?_
    show mW _ _ _ _ _ [some (.inr (some 33)), some (.inl v1), some (.inl 0), none] _ _ _
    refine mw_iload_n (pc' := 18) dX0_besidePool_17 rfl rfl ?_
    refine mw_bipush (pc' := 20) (v := 31) dX0_besidePool_18 rfl (by decide) ?_
    refine mw_icmp_ge (pc' := 23) (tgt := 34) dX0_besidePool_20 rfl (by decide) (fun c2 => ?_) (fun c2 => ?_)
    · replace K := K.1 c2
      refine mw_iconst (pc' := 35) (v := 0) dX0_besidePool_34 rfl (by decide) ?_
      refine mw_istore_n (pc' := 36) dX0_besidePool_35 rfl (by decide) ?_
      show mW _ _ _ _ _ [some (.inr (some 33)), some (.inl v1), some (.inl 0), some (.inl 0)] _ _ _
      refine mw_iload_n (pc' := 37) dX0_besidePool_36 rfl rfl ?_
      refine mw_iload_n (pc' := 38) dX0_besidePool_37 rfl rfl ?_
      refine mw_ior (pc' := 39) dX0_besidePool_38 rfl ?_
      exact mw_iret dX0_besidePool_39 rfl rfl K
    · replace K := K.2 c2
      refine mw_aload_n (pc' := 24) dX0_besidePool_23 rfl rfl ?_
      refine mw_getR (pc' := 27) dX0_besidePool_24 rfl flX0_24 rfl (skT_33 hS) ?_
      rw [skR_33_5 hS]
      refine mw_iload_n (pc' := 28) dX0_besidePool_27 rfl rfl ?_
      refine mw_iconst (pc' := 29) (v := 1) dX0_besidePool_28 rfl (by decide) ?_
      refine mw_iadd (pc' := 30) dX0_besidePool_29 rfl ?_
      obtain ⟨o1, K⟩ := K
      refine mw_ialdL (pc' := 31) dX0_besidePool_30 rfl (skT_37 hS) (skL_37 hS) o1 ?_
      refine mw_goto (tgt := 35) dX0_besidePool_31 (by decide) ?_
      refine mw_istore_n (pc' := 36) dX0_besidePool_35 rfl (by decide) ?_
      show mW _ _ _ _ _ [some (.inr (some 33)), some (.inl v1), some (.inl 0), some (.inl (mI h 37 (v1 + 1).toNatClampNeg))] _ _ _
      refine mw_iload_n (pc' := 37) dX0_besidePool_36 rfl rfl ?_
      refine mw_iload_n (pc' := 38) dX0_besidePool_37 rfl rfl ?_
      refine mw_ior (pc' := 39) dX0_besidePool_38 rfl ?_
      exact mw_iret dX0_besidePool_39 rfl rfl K
  · replace K := K.2 c6
    refine mw_aload_n (pc' := 5) dX0_besidePool_4 rfl rfl ?_
    refine mw_getR (pc' := 8) dX0_besidePool_5 rfl flX0_24 rfl (skT_33 hS) ?_
    rw [skR_33_5 hS]
    refine mw_iload_n (pc' := 9) dX0_besidePool_8 rfl rfl ?_
    refine mw_iconst (pc' := 10) (v := 1) dX0_besidePool_9 rfl (by decide) ?_
    refine mw_isub (pc' := 11) dX0_besidePool_10 rfl ?_
    obtain ⟨o3, K⟩ := K
    refine mw_ialdL (pc' := 12) dX0_besidePool_11 rfl (skT_37 hS) (skL_37 hS) o3 ?_
    refine mw_goto (tgt := 16) dX0_besidePool_12 (by decide) ?_
    refine mw_istore_n (pc' := 17) dX0_besidePool_16 rfl (by decide) ?_
    show mW _ _ _ _ _ [some (.inr (some 33)), some (.inl v1), some (.inl (mI h 37 (v1 - 1).toNatClampNeg)), none] _ _ _
    refine mw_iload_n (pc' := 18) dX0_besidePool_17 rfl rfl ?_
    refine mw_bipush (pc' := 20) (v := 31) dX0_besidePool_18 rfl (by decide) ?_
    refine mw_icmp_ge (pc' := 23) (tgt := 34) dX0_besidePool_20 rfl (by decide) (fun c5 => ?_) (fun c5 => ?_)
    · replace K := K.1 c5
      refine mw_iconst (pc' := 35) (v := 0) dX0_besidePool_34 rfl (by decide) ?_
      refine mw_istore_n (pc' := 36) dX0_besidePool_35 rfl (by decide) ?_
      show mW _ _ _ _ _ [some (.inr (some 33)), some (.inl v1), some (.inl (mI h 37 (v1 - 1).toNatClampNeg)), some (.inl 0)] _ _ _
      refine mw_iload_n (pc' := 37) dX0_besidePool_36 rfl rfl ?_
      refine mw_iload_n (pc' := 38) dX0_besidePool_37 rfl rfl ?_
      refine mw_ior (pc' := 39) dX0_besidePool_38 rfl ?_
      exact mw_iret dX0_besidePool_39 rfl rfl K
    · replace K := K.2 c5
      refine mw_aload_n (pc' := 24) dX0_besidePool_23 rfl rfl ?_
      refine mw_getR (pc' := 27) dX0_besidePool_24 rfl flX0_24 rfl (skT_33 hS) ?_
      rw [skR_33_5 hS]
      refine mw_iload_n (pc' := 28) dX0_besidePool_27 rfl rfl ?_
      refine mw_iconst (pc' := 29) (v := 1) dX0_besidePool_28 rfl (by decide) ?_
      refine mw_iadd (pc' := 30) dX0_besidePool_29 rfl ?_
      obtain ⟨o4, K⟩ := K
      refine mw_ialdL (pc' := 31) dX0_besidePool_30 rfl (skT_37 hS) (skL_37 hS) o4 ?_
      refine mw_goto (tgt := 35) dX0_besidePool_31 (by decide) ?_
      refine mw_istore_n (pc' := 36) dX0_besidePool_35 rfl (by decide) ?_
      show mW _ _ _ _ _ [some (.inr (some 33)), some (.inl v1), some (.inl (mI h 37 (v1 - 1).toNatClampNeg)), some (.inl (mI h 37 (v1 + 1).toNatClampNeg))] _ _ _
      refine mw_iload_n (pc' := 37) dX0_besidePool_36 rfl rfl ?_
      refine mw_iload_n (pc' := 38) dX0_besidePool_37 rfl rfl ?_
      refine mw_ior (pc' := 39) dX0_besidePool_38 rfl ?_
      exact mw_iret dX0_besidePool_39 rfl rfl K

set_option maxRecDepth 100000 in
set_option maxHeartbeats 4000000 in
theorem qX0_wallCells {G : mG} {d : Nat} {b : Nat × Nat} {h : mH} {Q : Option mV → mH → Prop} (v1 : Int32) (hS : mSk h)
    (K : mW G kX0_wallCells (d + 1) b 4 [some (.inr (some 33)), some (.inl v1), some (.inl 0), some (.inl 0), none] [] h Q) : mC G kX0_wallCells (d + 1) b [.inr (some 33), .inl v1] h Q := by
  refine mC_in rfl (Nat.le_of_ble_eq_true rfl) ?_
  show mW _ _ _ _ _ [some (.inr (some 33)), some (.inl v1), none, none, none] _ _ _
  refine mw_iconst (pc' := 1) (v := 0) dX0_wallCells_0 rfl (by decide) ?_
  refine mw_istore_n (pc' := 2) dX0_wallCells_1 rfl (by decide) ?_
  show mW _ _ _ _ _ [some (.inr (some 33)), some (.inl v1), some (.inl 0), none, none] _ _ _
  refine mw_iconst (pc' := 3) (v := 0) dX0_wallCells_2 rfl (by decide) ?_
  refine mw_istore_n (pc' := 4) dX0_wallCells_3 rfl (by decide) ?_
  show mW _ _ _ _ _ [some (.inr (some 33)), some (.inl v1), some (.inl 0), some (.inl 0), none] _ _ _
  exact K

set_option maxRecDepth 100000 in
set_option maxHeartbeats 4000000 in
theorem qX0_wallCells_4 {G : mG} {d : Nat} {b : Nat × Nat} {h : mH} {Q : Option mV → mH → Prop} (v1 : Int32) (v2 : Int32) (v3 : Int32) (hS : mSk h)
    (K : ((32 ≤ v3 → Q (some (.inl v2)) h) ∧ (¬ (32 ≤ v3) → vp_in v3 32 ∧ vp_in v3 32 ∧ mC G kX0_besidePool d (0, 0) [.inr (some 33), .inl v3] h (fun r h3 => ∃ x4, r = some (.inl x4) ∧ mSk h3 ∧ vp_in v3 32 ∧ ((v1 = 0 → mW G kX0_wallCells (d + 1) b 4 [some (.inr (some 33)), some (.inl v1), some (.inl (v2 + (f_J6_bitCount_0f7a4 ((((m_shl (mI h 37 v3.toNatClampNeg) 1) ||| (m_ushr (mI h 37 v3.toNatClampNeg) 1)) ||| x4) &&& (m_not (mI h3 36 v3.toNatClampNeg)))))), some (.inl (v3 + 1)), none] [] h3 Q) ∧ (¬ v1 = 0 → vp_in v3 32 ∧ mW G kX0_wallCells (d + 1) b 4 [some (.inr (some 33)), some (.inl v1), some (.inl (v2 + (f_J6_bitCount_0f7a4 (((((m_shl (mI h 37 v3.toNatClampNeg) 1) ||| (m_ushr (mI h 37 v3.toNatClampNeg) 1)) ||| x4) &&& (m_not (mI h3 36 v3.toNatClampNeg))) &&& (m_not (mI h3 35 v3.toNatClampNeg)))))), some (.inl (v3 + 1)), none] [] h3 Q)))))) : mW G kX0_wallCells (d + 1) b 4 [some (.inr (some 33)), some (.inl v1), some (.inl v2), some (.inl v3), none] [] h Q := by
  refine mw_iload_n (pc' := 5) dX0_wallCells_4 rfl rfl ?_
  refine mw_bipush (pc' := 7) (v := 32) dX0_wallCells_5 rfl (by decide) ?_
  refine mw_icmp_ge (pc' := 10) (tgt := 76) dX0_wallCells_7 rfl (by decide) (fun c8 => ?_) (fun c8 => ?_)
  · replace K := K.1 c8
    refine mw_iload_n (pc' := 77) dX0_wallCells_76 rfl rfl ?_
    exact mw_iret dX0_wallCells_77 rfl rfl K
  · replace K := K.2 c8
    refine mw_aload_n (pc' := 11) dX0_wallCells_10 rfl rfl ?_
    refine mw_getR (pc' := 14) dX0_wallCells_11 rfl flX0_24 rfl (skT_33 hS) ?_
    rw [skR_33_5 hS]
    refine mw_iload_n (pc' := 15) dX0_wallCells_14 rfl rfl ?_
    obtain ⟨o1, K⟩ := K
    refine mw_ialdL (pc' := 16) dX0_wallCells_15 rfl (skT_37 hS) (skL_37 hS) o1 ?_
    refine mw_iconst (pc' := 17) (v := 1) dX0_wallCells_16 rfl (by decide) ?_
    refine mw_ishlM (pc' := 18) dX0_wallCells_17 rfl ?_
    refine mw_aload_n (pc' := 19) dX0_wallCells_18 rfl rfl ?_
    refine mw_getR (pc' := 22) dX0_wallCells_19 rfl flX0_24 rfl (skT_33 hS) ?_
    rw [skR_33_5 hS]
    refine mw_iload_n (pc' := 23) dX0_wallCells_22 rfl rfl ?_
    obtain ⟨o2, K⟩ := K
    refine mw_ialdL (pc' := 24) dX0_wallCells_23 rfl (skT_37 hS) (skL_37 hS) o2 ?_
    refine mw_iconst (pc' := 25) (v := 1) dX0_wallCells_24 rfl (by decide) ?_
    refine mw_iushrM (pc' := 26) dX0_wallCells_25 rfl ?_
    refine mw_ior (pc' := 27) dX0_wallCells_26 rfl ?_
    refine mw_aload_n (pc' := 28) dX0_wallCells_27 rfl rfl ?_
    refine mw_iload_n (pc' := 29) dX0_wallCells_28 rfl rfl ?_
    refine mw_callV (pc' := 32) (b' := (0, 0)) (b1 := b) (av := [.inl v3]) (rest := [.inl ((m_shl (mI h 37 v3.toNatClampNeg) 1) ||| (m_ushr (mI h 37 v3.toNatClampNeg) 1))]) dX0_wallCells_29 rfl lkX0_80 rfl rfl (Nat.le_of_ble_eq_true rfl) ⟨Nat.le_of_eq (Nat.zero_add _), Nat.le_of_eq (Nat.zero_add _)⟩ (skT_33 hS) ?_
    refine mC_mono (fun r h3 hr => ?_) K
    obtain ⟨x4, rfl, hS, K⟩ := hr
    show mW _ _ _ _ _ _ [.inl x4, .inl ((m_shl (mI h 37 v3.toNatClampNeg) 1) ||| (m_ushr (mI h 37 v3.toNatClampNeg) 1))] _ _
    refine mw_ior (pc' := 33) dX0_wallCells_32 rfl ?_
    refine mw_aload_n (pc' := 34) dX0_wallCells_33 rfl rfl ?_
    refine mw_getR (pc' := 37) dX0_wallCells_34 rfl flX0_21 rfl (skT_33 hS) ?_
    rw [skR_33_4 hS]
    refine mw_iload_n (pc' := 38) dX0_wallCells_37 rfl rfl ?_
    obtain ⟨o5, K⟩ := K
    refine mw_ialdL (pc' := 39) dX0_wallCells_38 rfl (skT_36 hS) (skL_36 hS) o5 ?_
    refine mw_iconst (pc' := 40) (v := (-1)) dX0_wallCells_39 rfl (by decide) ?_
    refine mw_ixorM (pc' := 41) dX0_wallCells_40 rfl ?_
    refine mw_iand (pc' := 42) dX0_wallCells_41 rfl ?_
    refine mw_istore (pc' := 44) dX0_wallCells_42 rfl (by decide) ?_
    show mW _ _ _ _ _ [some (.inr (some 33)), some (.inl v1), some (.inl v2), some (.inl v3), some (.inl ((((m_shl (mI h 37 v3.toNatClampNeg) 1) ||| (m_ushr (mI h 37 v3.toNatClampNeg) 1)) ||| x4) &&& (m_not (mI h3 36 v3.toNatClampNeg))))] _ _ _
    refine mw_iload_n (pc' := 45) dX0_wallCells_44 rfl rfl ?_
    refine mw_iload_n (pc' := 46) dX0_wallCells_45 rfl rfl ?_
    refine mw_if_eq (pc' := 49) (tgt := 63) dX0_wallCells_46 rfl (by decide) (fun c7 => ?_) (fun c7 => ?_)
    · replace K := K.1 c7
      refine mw_iload (pc' := 65) dX0_wallCells_63 rfl rfl ?_
      refine mw_callS (pc' := 68) (b' := (0, 0)) (b1 := b) (av := [.inl ((((m_shl (mI h 37 v3.toNatClampNeg) 1) ||| (m_ushr (mI h 37 v3.toNatClampNeg) 1)) ||| x4) &&& (m_not (mI h3 36 v3.toNatClampNeg)))]) (rest := [.inl v2]) dX0_wallCells_65 rfl lkX0_84 rfl rfl (Nat.le_of_ble_eq_true rfl) ⟨Nat.le_of_eq (Nat.zero_add _), Nat.le_of_eq (Nat.zero_add _)⟩ ?_
      refine pJ6_bitCount_0f7a4 ?_
      refine mw_iadd (pc' := 69) dX0_wallCells_68 rfl ?_
      refine mw_istore_n (pc' := 70) dX0_wallCells_69 rfl (by decide) ?_
      show mW _ _ _ _ _ [some (.inr (some 33)), some (.inl v1), some (.inl (v2 + (f_J6_bitCount_0f7a4 ((((m_shl (mI h 37 v3.toNatClampNeg) 1) ||| (m_ushr (mI h 37 v3.toNatClampNeg) 1)) ||| x4) &&& (m_not (mI h3 36 v3.toNatClampNeg)))))), some (.inl v3), some (.inl ((((m_shl (mI h 37 v3.toNatClampNeg) 1) ||| (m_ushr (mI h 37 v3.toNatClampNeg) 1)) ||| x4) &&& (m_not (mI h3 36 v3.toNatClampNeg))))] _ _ _
      refine mw_iinc (pc' := 73) (v := v3 + 1) dX0_wallCells_70 rfl (by decide) rfl rfl ?_
      show mW _ _ _ _ _ [some (.inr (some 33)), some (.inl v1), some (.inl (v2 + (f_J6_bitCount_0f7a4 ((((m_shl (mI h 37 v3.toNatClampNeg) 1) ||| (m_ushr (mI h 37 v3.toNatClampNeg) 1)) ||| x4) &&& (m_not (mI h3 36 v3.toNatClampNeg)))))), some (.inl (v3 + 1)), some (.inl ((((m_shl (mI h 37 v3.toNatClampNeg) 1) ||| (m_ushr (mI h 37 v3.toNatClampNeg) 1)) ||| x4) &&& (m_not (mI h3 36 v3.toNatClampNeg))))] _ _ _
      refine mw_goto (tgt := 4) dX0_wallCells_73 (by decide) ?_
      refine mw_weak (ls' := [some (.inr (some 33)), some (.inl v1), some (.inl (v2 + (f_J6_bitCount_0f7a4 ((((m_shl (mI h 37 v3.toNatClampNeg) 1) ||| (m_ushr (mI h 37 v3.toNatClampNeg) 1)) ||| x4) &&& (m_not (mI h3 36 v3.toNatClampNeg)))))), some (.inl (v3 + 1)), none]) ?_ ?_
      · intro i v hv; match i, hv with
        | 0, hv => exact hv
        | 1, hv => exact hv
        | 2, hv => exact hv
        | 3, hv => exact hv
        | 4, hv => cases hv
        | n + 5, hv => cases hv
      exact K
    · replace K := K.2 c7
      refine mw_iload (pc' := 51) dX0_wallCells_49 rfl rfl ?_
      refine mw_aload_n (pc' := 52) dX0_wallCells_51 rfl rfl ?_
      refine mw_getR (pc' := 55) dX0_wallCells_52 rfl flX0_17 rfl (skT_33 hS) ?_
      rw [skR_33_3 hS]
      refine mw_iload_n (pc' := 56) dX0_wallCells_55 rfl rfl ?_
      obtain ⟨o6, K⟩ := K
      refine mw_ialdL (pc' := 57) dX0_wallCells_56 rfl (skT_35 hS) (skL_35 hS) o6 ?_
      refine mw_iconst (pc' := 58) (v := (-1)) dX0_wallCells_57 rfl (by decide) ?_
      refine mw_ixorM (pc' := 59) dX0_wallCells_58 rfl ?_
      refine mw_iand (pc' := 60) dX0_wallCells_59 rfl ?_
      refine mw_goto (tgt := 65) dX0_wallCells_60 (by decide) ?_
      refine mw_callS (pc' := 68) (b' := (0, 0)) (b1 := b) (av := [.inl (((((m_shl (mI h 37 v3.toNatClampNeg) 1) ||| (m_ushr (mI h 37 v3.toNatClampNeg) 1)) ||| x4) &&& (m_not (mI h3 36 v3.toNatClampNeg))) &&& (m_not (mI h3 35 v3.toNatClampNeg)))]) (rest := [.inl v2]) dX0_wallCells_65 rfl lkX0_84 rfl rfl (Nat.le_of_ble_eq_true rfl) ⟨Nat.le_of_eq (Nat.zero_add _), Nat.le_of_eq (Nat.zero_add _)⟩ ?_
      refine pJ6_bitCount_0f7a4 ?_
      refine mw_iadd (pc' := 69) dX0_wallCells_68 rfl ?_
      refine mw_istore_n (pc' := 70) dX0_wallCells_69 rfl (by decide) ?_
      show mW _ _ _ _ _ [some (.inr (some 33)), some (.inl v1), some (.inl (v2 + (f_J6_bitCount_0f7a4 (((((m_shl (mI h 37 v3.toNatClampNeg) 1) ||| (m_ushr (mI h 37 v3.toNatClampNeg) 1)) ||| x4) &&& (m_not (mI h3 36 v3.toNatClampNeg))) &&& (m_not (mI h3 35 v3.toNatClampNeg)))))), some (.inl v3), some (.inl ((((m_shl (mI h 37 v3.toNatClampNeg) 1) ||| (m_ushr (mI h 37 v3.toNatClampNeg) 1)) ||| x4) &&& (m_not (mI h3 36 v3.toNatClampNeg))))] _ _ _
      refine mw_iinc (pc' := 73) (v := v3 + 1) dX0_wallCells_70 rfl (by decide) rfl rfl ?_
      show mW _ _ _ _ _ [some (.inr (some 33)), some (.inl v1), some (.inl (v2 + (f_J6_bitCount_0f7a4 (((((m_shl (mI h 37 v3.toNatClampNeg) 1) ||| (m_ushr (mI h 37 v3.toNatClampNeg) 1)) ||| x4) &&& (m_not (mI h3 36 v3.toNatClampNeg))) &&& (m_not (mI h3 35 v3.toNatClampNeg)))))), some (.inl (v3 + 1)), some (.inl ((((m_shl (mI h 37 v3.toNatClampNeg) 1) ||| (m_ushr (mI h 37 v3.toNatClampNeg) 1)) ||| x4) &&& (m_not (mI h3 36 v3.toNatClampNeg))))] _ _ _
      refine mw_goto (tgt := 4) dX0_wallCells_73 (by decide) ?_
      refine mw_weak (ls' := [some (.inr (some 33)), some (.inl v1), some (.inl (v2 + (f_J6_bitCount_0f7a4 (((((m_shl (mI h 37 v3.toNatClampNeg) 1) ||| (m_ushr (mI h 37 v3.toNatClampNeg) 1)) ||| x4) &&& (m_not (mI h3 36 v3.toNatClampNeg))) &&& (m_not (mI h3 35 v3.toNatClampNeg)))))), some (.inl (v3 + 1)), none]) ?_ ?_
      · intro i v hv; match i, hv with
        | 0, hv => exact hv
        | 1, hv => exact hv
        | 2, hv => exact hv
        | 3, hv => exact hv
        | 4, hv => cases hv
        | n + 5, hv => cases hv
      exact K
