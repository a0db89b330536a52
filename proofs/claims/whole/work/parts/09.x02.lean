set_option maxRecDepth 100000 in
set_option maxHeartbeats 4000000 in
theorem qX2_addSounder {G : mG} {d : Nat} {b : Nat × Nat} {h : mH} {Q : Option mV → mH → Prop} (v1 : Int32) (v2 : Int32) (v3 : Int32) (v4 : Int32) (hS : mSk h)
    (K : ((6 ≤ (mI h 11 4) → Q none h) ∧ (¬ (6 ≤ (mI h 11 4)) → vp_in (mI h 11 4) 6 ∧ ∀ h2, h2 = mSI h 12 (mI h 11 4).toNatClampNeg v1 → vp_in (mI h2 11 4) 6 ∧ ∀ h4, h4 = mSI h2 13 (mI h2 11 4).toNatClampNeg v2 → vp_in (mI h4 11 4) 6 ∧ ∀ h6, h6 = mSI h4 14 (mI h4 11 4).toNatClampNeg v3 → vp_in (mI h6 11 4) 6 ∧ ∀ h8, h8 = mSI h6 15 (mI h6 11 4).toNatClampNeg v4 → ∀ h9, h9 = mSI h8 11 4 ((mI h8 11 4) + 1) → Q none h9))) : mC G kX2_addSounder d b [.inr (some 11), .inl v1, .inl v2, .inl v3, .inl v4] h Q := by
  refine mC_in rfl (Nat.le_of_ble_eq_true rfl) ?_
  show mW _ _ _ _ _ [some (.inr (some 11)), some (.inl v1), some (.inl v2), some (.inl v3), some (.inl v4)] _ _ _
  refine mw_aload_n (pc' := 1) dX2_addSounder_0 rfl rfl ?_
  refine mw_getI (pc' := 4) dX2_addSounder_1 rfl flX2_37 rfl (skT_11 hS) ?_
  refine mw_bipush (pc' := 6) (v := 6) dX2_addSounder_4 rfl (by decide) ?_
  refine mw_icmp_ge (pc' := 9) (tgt := 60) dX2_addSounder_6 rfl (by decide) (fun c10 => ?_) (fun c10 => ?_)
  · replace K := K.1 c10
    exact mw_ret dX2_addSounder_60 rfl K
  · replace K := K.2 c10
    refine mw_aload_n (pc' := 10) dX2_addSounder_9 rfl rfl ?_
    refine mw_getR (pc' := 13) dX2_addSounder_10 rfl flX2_9 rfl (skT_11 hS) ?_
    rw [skR_11_0 hS]
    refine mw_aload_n (pc' := 14) dX2_addSounder_13 rfl rfl ?_
    refine mw_getI (pc' := 17) dX2_addSounder_14 rfl flX2_37 rfl (skT_11 hS) ?_
    refine mw_iload_n (pc' := 18) dX2_addSounder_17 rfl rfl ?_
    obtain ⟨o1, K⟩ := K
    refine mw_iastK (pc' := 19) dX2_addSounder_18 rfl (skT_12 hS) (skL_12 hS) o1 hS (fun h2 eh2 hS => ?_)
    replace K := K h2 eh2
    refine mw_aload_n (pc' := 20) dX2_addSounder_19 rfl rfl ?_
    refine mw_getR (pc' := 23) dX2_addSounder_20 rfl flX2_15 rfl (skT_11 hS) ?_
    rw [skR_11_1 hS]
    refine mw_aload_n (pc' := 24) dX2_addSounder_23 rfl rfl ?_
    refine mw_getI (pc' := 27) dX2_addSounder_24 rfl flX2_37 rfl (skT_11 hS) ?_
    refine mw_iload_n (pc' := 28) dX2_addSounder_27 rfl rfl ?_
    obtain ⟨o3, K⟩ := K
    refine mw_iastK (pc' := 29) dX2_addSounder_28 rfl (skT_13 hS) (skL_13 hS) o3 hS (fun h4 eh4 hS => ?_)
    replace K := K h4 eh4
    refine mw_aload_n (pc' := 30) dX2_addSounder_29 rfl rfl ?_
    refine mw_getR (pc' := 33) dX2_addSounder_30 rfl flX2_18 rfl (skT_11 hS) ?_
    rw [skR_11_2 hS]
    refine mw_aload_n (pc' := 34) dX2_addSounder_33 rfl rfl ?_
    refine mw_getI (pc' := 37) dX2_addSounder_34 rfl flX2_37 rfl (skT_11 hS) ?_
    refine mw_iload_n (pc' := 38) dX2_addSounder_37 rfl rfl ?_
    obtain ⟨o5, K⟩ := K
    refine mw_iastK (pc' := 39) dX2_addSounder_38 rfl (skT_14 hS) (skL_14 hS) o5 hS (fun h6 eh6 hS => ?_)
    replace K := K h6 eh6
    refine mw_aload_n (pc' := 40) dX2_addSounder_39 rfl rfl ?_
    refine mw_getR (pc' := 43) dX2_addSounder_40 rfl flX2_21 rfl (skT_11 hS) ?_
    rw [skR_11_3 hS]
    refine mw_aload_n (pc' := 44) dX2_addSounder_43 rfl rfl ?_
    refine mw_getI (pc' := 47) dX2_addSounder_44 rfl flX2_37 rfl (skT_11 hS) ?_
    refine mw_iload (pc' := 49) dX2_addSounder_47 rfl rfl ?_
    obtain ⟨o7, K⟩ := K
    refine mw_iastK (pc' := 50) dX2_addSounder_49 rfl (skT_15 hS) (skL_15 hS) o7 hS (fun h8 eh8 hS => ?_)
    replace K := K h8 eh8
    refine mw_aload_n (pc' := 51) dX2_addSounder_50 rfl rfl ?_
    refine mw_dup (pc' := 52) dX2_addSounder_51 rfl ?_
    refine mw_getI (pc' := 55) dX2_addSounder_52 rfl flX2_37 rfl (skT_11 hS) ?_
    refine mw_iconst (pc' := 56) (v := 1) dX2_addSounder_55 rfl (by decide) ?_
    refine mw_iadd (pc' := 57) dX2_addSounder_56 rfl ?_
    refine mw_putIK (pc' := 60) dX2_addSounder_57 rfl flX2_37 rfl (Or.inl rfl) ⟨rfl, rfl⟩ (skT_11 hS) hS (fun h9 eh9 hS => ?_)
    replace K := K h9 eh9
    exact mw_ret dX2_addSounder_60 rfl K

set_option maxRecDepth 100000 in
set_option maxHeartbeats 4000000 in
theorem qX2_takeSpare {G : mG} {d : Nat} {b : Nat × Nat} {h : mH} {Q : Option mV → mH → Prop}  (hS : mSk h)
    (K : ∀ h1, h1 = mSR h 11 5 (mR h 11 6) → ∀ h2, h2 = mSR h1 11 6 (mR h 11 5) → Q none h2) : mC G kX2_takeSpare d b [.inr (some 11)] h Q := by
  refine mC_in rfl (Nat.le_of_ble_eq_true rfl) ?_
  show mW _ _ _ _ _ [some (.inr (some 11)), none] _ _ _
  refine mw_aload_n (pc' := 1) dX2_takeSpare_0 rfl rfl ?_
  refine mw_getR (pc' := 4) dX2_takeSpare_1 rfl flX2_27 rfl (skT_11 hS) ?_
  refine mw_astore_n (pc' := 5) dX2_takeSpare_4 rfl (by decide) ?_
  show mW _ _ _ _ _ [some (.inr (some 11)), some (.inr (mR h 11 5))] _ _ _
  refine mw_aload_n (pc' := 6) dX2_takeSpare_5 rfl rfl ?_
  refine mw_aload_n (pc' := 7) dX2_takeSpare_6 rfl rfl ?_
  refine mw_getR (pc' := 10) dX2_takeSpare_7 rfl flX2_31 rfl (skT_11 hS) ?_
  refine mw_putRK (pc' := 13) dX2_takeSpare_10 rfl flX2_27 rfl (Or.inl rfl) (skT_11 hS) hS (by decide) (fun h1 eh1 hS => ?_)
  replace K := K h1 eh1
  refine mw_aload_n (pc' := 14) dX2_takeSpare_13 rfl rfl ?_
  refine mw_aload_n (pc' := 15) dX2_takeSpare_14 rfl rfl ?_
  refine mw_putRK (pc' := 18) dX2_takeSpare_15 rfl flX2_31 rfl (Or.inl rfl) (skT_11 hS) hS (by decide) (fun h2 eh2 hS => ?_)
  replace K := K h2 eh2
  exact mw_ret dX2_takeSpare_18 rfl K

set_option maxRecDepth 100000 in
set_option maxHeartbeats 4000000 in
theorem qX2_hasSounder {G : mG} {d : Nat} {b : Nat × Nat} {h : mH} {Q : Option mV → mH → Prop} (v1 : Int32) (hS : mSk h)
    (K : ((v1 < 0 → Q (some (.inl 0)) h) ∧ (¬ (v1 < 0) → ∀ w1 : Int32, w1 = (if (mI h 11 4) ≤ v1 then 0 else 1) → Q (some (.inl w1)) h))) : mC G kX2_hasSounder d b [.inr (some 11), .inl v1] h Q := by
  refine mC_in rfl (Nat.le_of_ble_eq_true rfl) ?_
  show mW _ _ _ _ _ [some (.inr (some 11)), some (.inl v1)] _ _ _
  refine mw_iload_n (pc' := 1) dX2_hasSounder_0 rfl rfl ?_
  refine mw_if_lt (pc' := 4) (tgt := 16) dX2_hasSounder_1 rfl (by decide) (fun c4 => ?_) (fun c4 => ?_)
  · replace K := K.1 c4
    refine mw_iconst (pc' := 17) (v := 0) dX2_hasSounder_16 rfl (by decide) ?_
    exact mw_iret dX2_hasSounder_17 rfl (by decide) K
  · replace K := K.2 c4
    refine mw_iload_n (pc' := 5) dX2_hasSounder_4 rfl rfl ?_
    refine mw_aload_n (pc' := 6) dX2_hasSounder_5 rfl rfl ?_
    refine mw_getI (pc' := 9) dX2_hasSounder_6 rfl flX2_37 rfl (skT_11 hS) ?_
    have J2 : ∀ w1 : Int32, w1 = (if (mI h 11 4) ≤ v1 then 0 else 1) → mW G kX2_hasSounder d b 17 [some (.inr (some 11)), some (.inl v1)] ([.inl w1]) h Q := by
      intro w1 ew1
      replace K := K w1 ew1
      exact mw_iret dX2_hasSounder_17 rfl (m_boolN (by rw [ew1]; exact (m_boolI m_bool0 m_bool1))) K
    refine mw_icmp_ge (pc' := 12) (tgt := 16) dX2_hasSounder_9 rfl (by decide) (fun c3 => ?_) (fun c3 => ?_)
    · refine mw_iconst (pc' := 17) (v := 0) dX2_hasSounder_16 rfl (by decide) ?_
      exact J2 _ (by rw [if_pos c3])
    · refine mw_iconst (pc' := 13) (v := 1) dX2_hasSounder_12 rfl (by decide) ?_
      refine mw_goto (tgt := 17) dX2_hasSounder_13 (by decide) ?_
      exact J2 _ (by rw [if_neg c3])

set_option maxRecDepth 100000 in
set_option maxHeartbeats 4000000 in
theorem qX2_listen {G : mG} {d : Nat} {b : Nat × Nat} {h : mH} {Q : Option mV → mH → Prop} (v1 : Int32) (v2 : Int32) (v3 : Int32) (hS : mSk h)
    (K : mC G kX2_hasSounder d (0, 0) [.inr (some 11), .inl v1] h (fun r h1 => ∃ x2, r = some (.inl x2) ∧ mSk h1 ∧ ((x2 = 0 → Q none h1) ∧ (¬ x2 = 0 → vp_in v1 6 ∧ vp_in 0 9 ∧ ∀ h5, h5 = mSI h1 26 0 (mI h1 15 v1.toNatClampNeg) → vp_in v1 6 ∧ vp_in 1 9 ∧ ∀ h8, h8 = mSI h5 26 1 (mI h5 14 v1.toNatClampNeg) → vp_in 2 9 ∧ ∀ h10, h10 = mSI h8 26 2 v1 → vp_in 3 9 ∧ ∀ h12, h12 = mSI h10 26 3 v2 → vp_in 4 9 ∧ ∀ h14, h14 = mSI h12 26 4 v3 → Q none h14)))) : mC G kX2_listen (d + 1) b [.inr (some 11), .inl v1, .inl v2, .inl v3] h Q := by
  refine mC_in rfl (Nat.le_of_ble_eq_true rfl) ?_
  show mW _ _ _ _ _ [some (.inr (some 11)), some (.inl v1), some (.inl v2), some (.inl v3)] _ _ _
  refine mw_aload_n (pc' := 1) dX2_listen_0 rfl rfl ?_
  refine mw_iload_n (pc' := 2) dX2_listen_1 rfl rfl ?_
  refine mw_callV (pc' := 5) (b' := (0, 0)) (b1 := b) (av := [.inl v1]) (rest := []) dX2_listen_2 rfl lkX2_41 rfl rfl (Nat.le_of_ble_eq_true rfl) ⟨Nat.le_of_eq (Nat.zero_add _), Nat.le_of_eq (Nat.zero_add _)⟩ (skT_11 hS) ?_
  refine mC_mono (fun r h1 hr => ?_) K
  obtain ⟨x2, rfl, hS, K⟩ := hr
  show mW _ _ _ _ _ _ [.inl x2] _ _
  refine mw_if_eq (pc' := 8) (tgt := 53) dX2_listen_5 rfl (by decide) (fun c15 => ?_) (fun c15 => ?_)
  · replace K := K.1 c15
    exact mw_ret dX2_listen_53 rfl K
  · replace K := K.2 c15
    refine mw_aload_n (pc' := 9) dX2_listen_8 rfl rfl ?_
    refine mw_getR (pc' := 12) dX2_listen_9 rfl flX2_34 rfl (skT_11 hS) ?_
    rw [skR_11_7 hS]
    refine mw_iconst (pc' := 13) (v := 0) dX2_listen_12 rfl (by decide) ?_
    refine mw_aload_n (pc' := 14) dX2_listen_13 rfl rfl ?_
    refine mw_getR (pc' := 17) dX2_listen_14 rfl flX2_21 rfl (skT_11 hS) ?_
    rw [skR_11_3 hS]
    refine mw_iload_n (pc' := 18) dX2_listen_17 rfl rfl ?_
    obtain ⟨o3, K⟩ := K
    refine mw_ialdL (pc' := 19) dX2_listen_18 rfl (skT_15 hS) (skL_15 hS) o3 ?_
    obtain ⟨o4, K⟩ := K
    refine mw_iastK (pc' := 20) dX2_listen_19 rfl (skT_26 hS) (skL_26 hS) o4 hS (fun h5 eh5 hS => ?_)
    replace K := K h5 eh5
    refine mw_aload_n (pc' := 21) dX2_listen_20 rfl rfl ?_
    refine mw_getR (pc' := 24) dX2_listen_21 rfl flX2_34 rfl (skT_11 hS) ?_
    rw [skR_11_7 hS]
    refine mw_iconst (pc' := 25) (v := 1) dX2_listen_24 rfl (by decide) ?_
    refine mw_aload_n (pc' := 26) dX2_listen_25 rfl rfl ?_
    refine mw_getR (pc' := 29) dX2_listen_26 rfl flX2_18 rfl (skT_11 hS) ?_
    rw [skR_11_2 hS]
    refine mw_iload_n (pc' := 30) dX2_listen_29 rfl rfl ?_
    obtain ⟨o6, K⟩ := K
    refine mw_ialdL (pc' := 31) dX2_listen_30 rfl (skT_14 hS) (skL_14 hS) o6 ?_
    obtain ⟨o7, K⟩ := K
    refine mw_iastK (pc' := 32) dX2_listen_31 rfl (skT_26 hS) (skL_26 hS) o7 hS (fun h8 eh8 hS => ?_)
    replace K := K h8 eh8
    refine mw_aload_n (pc' := 33) dX2_listen_32 rfl rfl ?_
    refine mw_getR (pc' := 36) dX2_listen_33 rfl flX2_34 rfl (skT_11 hS) ?_
    rw [skR_11_7 hS]
    refine mw_iconst (pc' := 37) (v := 2) dX2_listen_36 rfl (by decide) ?_
    refine mw_iload_n (pc' := 38) dX2_listen_37 rfl rfl ?_
    obtain ⟨o9, K⟩ := K
    refine mw_iastK (pc' := 39) dX2_listen_38 rfl (skT_26 hS) (skL_26 hS) o9 hS (fun h10 eh10 hS => ?_)
    replace K := K h10 eh10
    refine mw_aload_n (pc' := 40) dX2_listen_39 rfl rfl ?_
    refine mw_getR (pc' := 43) dX2_listen_40 rfl flX2_34 rfl (skT_11 hS) ?_
    rw [skR_11_7 hS]
    refine mw_iconst (pc' := 44) (v := 3) dX2_listen_43 rfl (by decide) ?_
    refine mw_iload_n (pc' := 45) dX2_listen_44 rfl rfl ?_
    obtain ⟨o11, K⟩ := K
    refine mw_iastK (pc' := 46) dX2_listen_45 rfl (skT_26 hS) (skL_26 hS) o11 hS (fun h12 eh12 hS => ?_)
    replace K := K h12 eh12
    refine mw_aload_n (pc' := 47) dX2_listen_46 rfl rfl ?_
    refine mw_getR (pc' := 50) dX2_listen_47 rfl flX2_34 rfl (skT_11 hS) ?_
    rw [skR_11_7 hS]
    refine mw_iconst (pc' := 51) (v := 4) dX2_listen_50 rfl (by decide) ?_
    refine mw_iload_n (pc' := 52) dX2_listen_51 rfl rfl ?_
    obtain ⟨o13, K⟩ := K
    refine mw_iastK (pc' := 53) dX2_listen_52 rfl (skT_26 hS) (skL_26 hS) o13 hS (fun h14 eh14 hS => ?_)
    replace K := K h14 eh14
    exact mw_ret dX2_listen_53 rfl K

set_option maxRecDepth 100000 in
set_option maxHeartbeats 4000000 in
theorem qX2_loudnessAt {G : mG} {d : Nat} {b : Nat × Nat} {h : mH} {Q : Option mV → mH → Prop} (a1 : Nat) (v2 : Int32) (v3 : Int32) (ta1 : mT h a1 = 2) (hS : mSk h)
    (K : vp_in 2 9 ∧ vp_in (mI h 26 2) 6 ∧ vp_in 2 9 ∧ vp_in (mI h 26 2) 6 ∧ vp_in 5 9 ∧ ∀ h6, h6 = mSI h 26 5 ((f_abs ((mI h 12 (mI h 26 2).toNatClampNeg) - v2)) + (f_abs ((mI h 13 (mI h 26 2).toNatClampNeg) - v3))) → vp_in 6 9 ∧ ∀ h8, h8 = mSI h6 26 6 ((mI h 13 (mI h 26 2).toNatClampNeg) - v3) → vp_in 7 9 ∧ ∀ h10, h10 = mSI h8 26 7 ((mI h 12 (mI h 26 2).toNatClampNeg) - v2) → mC G kX1_landBetween (d + 1) (0, 0) [.inr (some a1), .inl v2, .inl v3, .inl (mI h 12 (mI h 26 2).toNatClampNeg), .inl (mI h 13 (mI h 26 2).toNatClampNeg)] h10 (fun r h11 => ∃ x12, r = some (.inl x12) ∧ mSk h11 ∧ mT h11 a1 = 2 ∧ vp_in 8 9 ∧ ∀ h14, h14 = mSI h11 26 8 x12 → mW G kX2_loudnessAt (d + 2) b 89 [some (.inr (some 11)), none, none, none, none, none, some (.inl 0), none] [] h14 Q)) : mC G kX2_loudnessAt (d + 2) b [.inr (some 11), .inr (some a1), .inl v2, .inl v3] h Q := by
  refine mC_in rfl (Nat.le_of_ble_eq_true rfl) ?_
  show mW _ _ _ _ _ [some (.inr (some 11)), some (.inr (some a1)), some (.inl v2), some (.inl v3), none, none, none, none] _ _ _
  refine mw_aload_n (pc' := 1) dX2_loudnessAt_0 rfl rfl ?_
  refine mw_getR (pc' := 4) dX2_loudnessAt_1 rfl flX2_9 rfl (skT_11 hS) ?_
  rw [skR_11_0 hS]
  refine mw_aload_n (pc' := 5) dX2_loudnessAt_4 rfl rfl ?_
  refine mw_getR (pc' := 8) dX2_loudnessAt_5 rfl flX2_34 rfl (skT_11 hS) ?_
  rw [skR_11_7 hS]
  refine mw_iconst (pc' := 9) (v := 2) dX2_loudnessAt_8 rfl (by decide) ?_
  obtain ⟨o1, K⟩ := K
  refine mw_ialdL (pc' := 10) dX2_loudnessAt_9 rfl (skT_26 hS) (skL_26 hS) o1 ?_
  obtain ⟨o2, K⟩ := K
  refine mw_ialdL (pc' := 11) dX2_loudnessAt_10 rfl (skT_12 hS) (skL_12 hS) o2 ?_
  refine mw_istore (pc' := 13) dX2_loudnessAt_11 rfl (by decide) ?_
  show mW _ _ _ _ _ [some (.inr (some 11)), some (.inr (some a1)), some (.inl v2), some (.inl v3), some (.inl (mI h 12 (mI h 26 2).toNatClampNeg)), none, none, none] _ _ _
  refine mw_aload_n (pc' := 14) dX2_loudnessAt_13 rfl rfl ?_
  refine mw_getR (pc' := 17) dX2_loudnessAt_14 rfl flX2_15 rfl (skT_11 hS) ?_
  rw [skR_11_1 hS]
  refine mw_aload_n (pc' := 18) dX2_loudnessAt_17 rfl rfl ?_
  refine mw_getR (pc' := 21) dX2_loudnessAt_18 rfl flX2_34 rfl (skT_11 hS) ?_
  rw [skR_11_7 hS]
  refine mw_iconst (pc' := 22) (v := 2) dX2_loudnessAt_21 rfl (by decide) ?_
  obtain ⟨o3, K⟩ := K
  refine mw_ialdL (pc' := 23) dX2_loudnessAt_22 rfl (skT_26 hS) (skL_26 hS) o3 ?_
  obtain ⟨o4, K⟩ := K
  refine mw_ialdL (pc' := 24) dX2_loudnessAt_23 rfl (skT_13 hS) (skL_13 hS) o4 ?_
  refine mw_istore (pc' := 26) dX2_loudnessAt_24 rfl (by decide) ?_
  show mW _ _ _ _ _ [some (.inr (some 11)), some (.inr (some a1)), some (.inl v2), some (.inl v3), some (.inl (mI h 12 (mI h 26 2).toNatClampNeg)), some (.inl (mI h 13 (mI h 26 2).toNatClampNeg)), none, none] _ _ _
  refine mw_aload_n (pc' := 27) dX2_loudnessAt_26 rfl rfl ?_
  refine mw_getR (pc' := 30) dX2_loudnessAt_27 rfl flX2_34 rfl (skT_11 hS) ?_
  rw [skR_11_7 hS]
  refine mw_iconst (pc' := 31) (v := 5) dX2_loudnessAt_30 rfl (by decide) ?_
  refine mw_iload (pc' := 33) dX2_loudnessAt_31 rfl rfl ?_
  refine mw_iload_n (pc' := 34) dX2_loudnessAt_33 rfl rfl ?_
  refine mw_isub (pc' := 35) dX2_loudnessAt_34 rfl ?_
  refine mw_mabs (pc' := 38) dX2_loudnessAt_35 rfl lkX2_45 (Nat.le_of_ble_eq_true rfl) ?_
  refine mw_iload (pc' := 40) dX2_loudnessAt_38 rfl rfl ?_
  refine mw_iload_n (pc' := 41) dX2_loudnessAt_40 rfl rfl ?_
  refine mw_isub (pc' := 42) dX2_loudnessAt_41 rfl ?_
  refine mw_mabs (pc' := 45) dX2_loudnessAt_42 rfl lkX2_45 (Nat.le_of_ble_eq_true rfl) ?_
  refine mw_iadd (pc' := 46) dX2_loudnessAt_45 rfl ?_
  obtain ⟨o5, K⟩ := K
  refine mw_iastK (pc' := 47) dX2_loudnessAt_46 rfl (skT_26 hS) (skL_26 hS) o5 hS (fun h6 eh6 hS => ?_)
  replace K := K h6 eh6
  have ta1 : mT h6 a1 = 2 := by rw [eh6]; exact ta1
  refine mw_aload_n (pc' := 48) dX2_loudnessAt_47 rfl rfl ?_
  refine mw_getR (pc' := 51) dX2_loudnessAt_48 rfl flX2_34 rfl (skT_11 hS) ?_
  rw [skR_11_7 hS]
  refine mw_bipush (pc' := 53) (v := 6) dX2_loudnessAt_51 rfl (by decide) ?_
  refine mw_iload (pc' := 55) dX2_loudnessAt_53 rfl rfl ?_
  refine mw_iload_n (pc' := 56) dX2_loudnessAt_55 rfl rfl ?_
  refine mw_isub (pc' := 57) dX2_loudnessAt_56 rfl ?_
  obtain ⟨o7, K⟩ := K
  refine mw_iastK (pc' := 58) dX2_loudnessAt_57 rfl (skT_26 hS) (skL_26 hS) o7 hS (fun h8 eh8 hS => ?_)
  replace K := K h8 eh8
  have ta1 : mT h8 a1 = 2 := by rw [eh8]; exact ta1
  refine mw_aload_n (pc' := 59) dX2_loudnessAt_58 rfl rfl ?_
  refine mw_getR (pc' := 62) dX2_loudnessAt_59 rfl flX2_34 rfl (skT_11 hS) ?_
  rw [skR_11_7 hS]
  refine mw_bipush (pc' := 64) (v := 7) dX2_loudnessAt_62 rfl (by decide) ?_
  refine mw_iload (pc' := 66) dX2_loudnessAt_64 rfl rfl ?_
  refine mw_iload_n (pc' := 67) dX2_loudnessAt_66 rfl rfl ?_
  refine mw_isub (pc' := 68) dX2_loudnessAt_67 rfl ?_
  obtain ⟨o9, K⟩ := K
  refine mw_iastK (pc' := 69) dX2_loudnessAt_68 rfl (skT_26 hS) (skL_26 hS) o9 hS (fun h10 eh10 hS => ?_)
  replace K := K h10 eh10
  have ta1 : mT h10 a1 = 2 := by rw [eh10]; exact ta1
  refine mw_aload_n (pc' := 70) dX2_loudnessAt_69 rfl rfl ?_
  refine mw_getR (pc' := 73) dX2_loudnessAt_70 rfl flX2_34 rfl (skT_11 hS) ?_
  rw [skR_11_7 hS]
  refine mw_bipush (pc' := 75) (v := 8) dX2_loudnessAt_73 rfl (by decide) ?_
  refine mw_aload_n (pc' := 76) dX2_loudnessAt_75 rfl rfl ?_
  refine mw_iload_n (pc' := 77) dX2_loudnessAt_76 rfl rfl ?_
  refine mw_iload_n (pc' := 78) dX2_loudnessAt_77 rfl rfl ?_
  refine mw_iload (pc' := 80) dX2_loudnessAt_78 rfl rfl ?_
  refine mw_iload (pc' := 82) dX2_loudnessAt_80 rfl rfl ?_
  refine mw_callV (pc' := 85) (b' := (0, 0)) (b1 := b) (av := [.inl v2, .inl v3, .inl (mI h 12 (mI h 26 2).toNatClampNeg), .inl (mI h 13 (mI h 26 2).toNatClampNeg)]) (rest := [.inl 8, .inr (some 26)]) dX2_loudnessAt_82 rfl lkX2_51 rfl rfl (Nat.le_of_ble_eq_true rfl) ⟨Nat.le_of_eq (Nat.zero_add _), Nat.le_of_eq (Nat.zero_add _)⟩ (ta1) ?_
  refine mC_mono (fun r h11 hr => ?_) K
  obtain ⟨x12, rfl, hS, ta1, K⟩ := hr
  show mW _ _ _ _ _ _ [.inl x12, .inl 8, .inr (some 26)] _ _
  obtain ⟨o13, K⟩ := K
  refine mw_iastK (pc' := 86) dX2_loudnessAt_85 rfl (skT_26 hS) (skL_26 hS) o13 hS (fun h14 eh14 hS => ?_)
  replace K := K h14 eh14
  have ta1 : mT h14 a1 = 2 := by rw [eh14]; exact ta1
  refine mw_iconst (pc' := 87) (v := 0) dX2_loudnessAt_86 rfl (by decide) ?_
  refine mw_istore (pc' := 89) dX2_loudnessAt_87 rfl (by decide) ?_
  show mW _ _ _ _ _ [some (.inr (some 11)), some (.inr (some a1)), some (.inl v2), some (.inl v3), some (.inl (mI h 12 (mI h 26 2).toNatClampNeg)), some (.inl (mI h 13 (mI h 26 2).toNatClampNeg)), some (.inl 0), none] _ _ _
  refine mw_weak (ls' := [some (.inr (some 11)), none, none, none, none, none, some (.inl 0), none]) ?_ ?_
  · intro i v hv; match i, hv with
    | 0, hv => exact hv
    | 1, hv => cases hv
    | 2, hv => cases hv
    | 3, hv => cases hv
    | 4, hv => cases hv
    | 5, hv => cases hv
    | 6, hv => exact hv
    | 7, hv => cases hv
    | n + 8, hv => cases hv
  exact K

set_option maxRecDepth 100000 in
set_option maxHeartbeats 4000000 in
theorem qX2_loudnessAt_89 {G : mG} {d : Nat} {b : Nat × Nat} {h : mH} {Q : Option mV → mH → Prop} (v6 : Int32) (hS : mSk h)
    (K : ∃ y1, mR h 11 5 = some y1 ∧ mT h y1 = 4 ∧ (((mI h y1 5) ≤ v6 → Q (some (.inl 0)) h) ∧ (¬ ((mI h y1 5) ≤ v6) → ∃ y2, mR h 11 5 = some y2 ∧ mT h y2 = 4 ∧ vp_in v6 12 ∧ ∃ y4, mR h 11 5 = some y4 ∧ mT h y4 = 4 ∧ vp_in (v6 + 1) 13 ∧ mC G kX3_run (d + 1) (0, 0) [.inr (some y2), .inl (mI h (y2 + 3) v6.toNatClampNeg), .inl (mI h (y4 + 2) (v6 + 1).toNatClampNeg), .inr (some 26)] h (fun r h6 => ∃ x7, r = some (.inl x7) ∧ mSk h6 ∧ mT h6 y1 = 4 ∧ mT h6 y2 = 4 ∧ mT h6 y4 = 4 ∧ ∃ y8, mR h6 11 5 = some y8 ∧ mT h6 y8 = 4 ∧ (((mI h6 y8 7) = 0 → mW G kX2_loudnessAt (d + 2) b 89 [some (.inr (some 11)), none, none, none, none, none, some (.inl (v6 + 1)), none] [] h6 Q) ∧ (¬ (mI h6 y8 7) = 0 → ∃ y9, mR h6 11 5 = some y9 ∧ mT h6 y9 = 4 ∧ ((¬ (mI h6 y9 6) = 0 → mW G kX2_loudnessAt (d + 2) b 89 [some (.inr (some 11)), none, none, none, none, none, some (.inl (v6 + 1)), none] [] h6 Q) ∧ ((mI h6 y9 6) = 0 → ∃ y10, mR h6 11 5 = some y10 ∧ mT h6 y10 = 4 ∧ vp_in v6 13 ∧ ∃ y12, mR h6 11 5 = some y12 ∧ mT h6 y12 = 4 ∧ vp_in v6 12 ∧ mC G kX3_run (d + 1) (0, 0) [.inr (some y10), .inl (mI h6 (y10 + 2) v6.toNatClampNeg), .inl (mI h6 (y12 + 3) v6.toNatClampNeg), .inr (some 26)] h6 (fun r h14 => ∃ x15, r = some (.inl x15) ∧ mSk h14 ∧ mT h14 y1 = 4 ∧ mT h14 y2 = 4 ∧ mT h14 y4 = 4 ∧ mT h14 y8 = 4 ∧ mT h14 y9 = 4 ∧ mT h14 y10 = 4 ∧ mT h14 y12 = 4 ∧ Q (some (.inl (f_max 0 (f_min 99 x15)))) h14))))))))) : mW G kX2_loudnessAt (d + 2) b 89 [some (.inr (some 11)), none, none, none, none, none, some (.inl v6), none] [] h Q := by
  refine mw_iload (pc' := 91) dX2_loudnessAt_89 rfl rfl ?_
  refine mw_aload_n (pc' := 92) dX2_loudnessAt_91 rfl rfl ?_
  refine mw_getR (pc' := 95) dX2_loudnessAt_92 rfl flX2_27 rfl (skT_11 hS) ?_
  obtain ⟨y1, ey1, ty1, K⟩ := K
  rw [ey1]
  refine mw_getI (pc' := 98) dX2_loudnessAt_95 rfl flX2_57 rfl (ty1) ?_
  refine mw_icmp_ge (pc' := 101) (tgt := 206) dX2_loudnessAt_98 rfl (by decide) (fun c18 => ?_) (fun c18 => ?_)
  · replace K := K.1 c18
    refine mw_iconst (pc' := 207) (v := 0) dX2_loudnessAt_206 rfl (by decide) ?_
    exact mw_iret dX2_loudnessAt_207 rfl rfl K
  · replace K := K.2 c18
    refine mw_aload_n (pc' := 102) dX2_loudnessAt_101 rfl rfl ?_
    refine mw_getR (pc' := 105) dX2_loudnessAt_102 rfl flX2_27 rfl (skT_11 hS) ?_
    refine mw_aload_n (pc' := 106) dX2_loudnessAt_105 rfl rfl ?_
    refine mw_getR (pc' := 109) dX2_loudnessAt_106 rfl flX2_27 rfl (skT_11 hS) ?_
    obtain ⟨y2, ey2, ty2, K⟩ := K
    rw [ey2]
    refine mw_getR (pc' := 112) dX2_loudnessAt_109 rfl flX2_60 rfl (ty2) ?_
    rw [skBR_3_2 hS ty2]
    refine mw_iload (pc' := 114) dX2_loudnessAt_112 rfl rfl ?_
    obtain ⟨o3, K⟩ := K
    refine mw_ialdL (pc' := 115) dX2_loudnessAt_114 rfl (skBT_3_3 hS ty2) (skBL_3_3 hS ty2) o3 ?_
    refine mw_aload_n (pc' := 116) dX2_loudnessAt_115 rfl rfl ?_
    refine mw_getR (pc' := 119) dX2_loudnessAt_116 rfl flX2_27 rfl (skT_11 hS) ?_
    obtain ⟨y4, ey4, ty4, K⟩ := K
    rw [ey4]
    refine mw_getR (pc' := 122) dX2_loudnessAt_119 rfl flX2_63 rfl (ty4) ?_
    rw [skBR_3_1 hS ty4]
    refine mw_iload (pc' := 124) dX2_loudnessAt_122 rfl rfl ?_
    refine mw_iconst (pc' := 125) (v := 1) dX2_loudnessAt_124 rfl (by decide) ?_
    refine mw_iadd (pc' := 126) dX2_loudnessAt_125 rfl ?_
    obtain ⟨o5, K⟩ := K
    refine mw_ialdL (pc' := 127) dX2_loudnessAt_126 rfl (skBT_3_2 hS ty4) (skBL_3_2 hS ty4) o5 ?_
    refine mw_aload_n (pc' := 128) dX2_loudnessAt_127 rfl rfl ?_
    refine mw_getR (pc' := 131) dX2_loudnessAt_128 rfl flX2_34 rfl (skT_11 hS) ?_
    rw [skR_11_7 hS]
    refine mw_callV (pc' := 134) (b' := (0, 0)) (b1 := b) (av := [.inl (mI h (y2 + 3) v6.toNatClampNeg), .inl (mI h (y4 + 2) (v6 + 1).toNatClampNeg), .inr (some 26)]) (rest := []) dX2_loudnessAt_131 rfl lkX2_66 rfl rfl (Nat.le_of_ble_eq_true rfl) ⟨Nat.le_of_eq (Nat.zero_add _), Nat.le_of_eq (Nat.zero_add _)⟩ (ty2) ?_
    refine mC_mono (fun r h6 hr => ?_) K
    obtain ⟨x7, rfl, hS, ty1, ty2, ty4, K⟩ := hr
    show mW _ _ _ _ _ _ [.inl x7] _ _
    refine mw_pop (pc' := 135) dX2_loudnessAt_134 rfl ?_
    refine mw_aload_n (pc' := 136) dX2_loudnessAt_135 rfl rfl ?_
    refine mw_getR (pc' := 139) dX2_loudnessAt_136 rfl flX2_27 rfl (skT_11 hS) ?_
    obtain ⟨y8, ey8, ty8, K⟩ := K
    rw [ey8]
    refine mw_getI (pc' := 142) dX2_loudnessAt_139 rfl flX2_70 rfl (ty8) ?_
    refine mw_if_eq (pc' := 145) (tgt := 200) dX2_loudnessAt_142 rfl (by decide) (fun c17 => ?_) (fun c17 => ?_)
    · replace K := K.1 c17
      refine mw_iinc (pc' := 203) (v := v6 + 1) dX2_loudnessAt_200 rfl (by decide) rfl rfl ?_
      show mW _ _ _ _ _ [some (.inr (some 11)), none, none, none, none, none, some (.inl (v6 + 1)), none] _ _ _
      refine mw_goto (tgt := 89) dX2_loudnessAt_203 (by decide) ?_
      exact K
    · replace K := K.2 c17
      refine mw_aload_n (pc' := 146) dX2_loudnessAt_145 rfl rfl ?_
      refine mw_getR (pc' := 149) dX2_loudnessAt_146 rfl flX2_27 rfl (skT_11 hS) ?_
      obtain ⟨y9, ey9, ty9, K⟩ := K
      rw [ey9]
      refine mw_getI (pc' := 152) dX2_loudnessAt_149 rfl flX2_74 rfl (ty9) ?_
      refine mw_if_ne (pc' := 155) (tgt := 200) dX2_loudnessAt_152 rfl (by decide) (fun c16 => ?_) (fun c16 => ?_)
      · replace K := K.1 c16
        refine mw_iinc (pc' := 203) (v := v6 + 1) dX2_loudnessAt_200 rfl (by decide) rfl rfl ?_
        show mW _ _ _ _ _ [some (.inr (some 11)), none, none, none, none, none, some (.inl (v6 + 1)), none] _ _ _
        refine mw_goto (tgt := 89) dX2_loudnessAt_203 (by decide) ?_
        exact K
      · replace K := K.2 c16
        refine mw_aload_n (pc' := 156) dX2_loudnessAt_155 rfl rfl ?_
        refine mw_getR (pc' := 159) dX2_loudnessAt_156 rfl flX2_27 rfl (skT_11 hS) ?_
        refine mw_aload_n (pc' := 160) dX2_loudnessAt_159 rfl rfl ?_
        refine mw_getR (pc' := 163) dX2_loudnessAt_160 rfl flX2_27 rfl (skT_11 hS) ?_
        obtain ⟨y10, ey10, ty10, K⟩ := K
        rw [ey10]
        refine mw_getR (pc' := 166) dX2_loudnessAt_163 rfl flX2_63 rfl (ty10) ?_
        rw [skBR_3_1 hS ty10]
        refine mw_iload (pc' := 168) dX2_loudnessAt_166 rfl rfl ?_
        obtain ⟨o11, K⟩ := K
        refine mw_ialdL (pc' := 169) dX2_loudnessAt_168 rfl (skBT_3_2 hS ty10) (skBL_3_2 hS ty10) o11 ?_
        refine mw_aload_n (pc' := 170) dX2_loudnessAt_169 rfl rfl ?_
        refine mw_getR (pc' := 173) dX2_loudnessAt_170 rfl flX2_27 rfl (skT_11 hS) ?_
        obtain ⟨y12, ey12, ty12, K⟩ := K
        rw [ey12]
        refine mw_getR (pc' := 176) dX2_loudnessAt_173 rfl flX2_60 rfl (ty12) ?_
        rw [skBR_3_2 hS ty12]
        refine mw_iload (pc' := 178) dX2_loudnessAt_176 rfl rfl ?_
        obtain ⟨o13, K⟩ := K
        refine mw_ialdL (pc' := 179) dX2_loudnessAt_178 rfl (skBT_3_3 hS ty12) (skBL_3_3 hS ty12) o13 ?_
        refine mw_aload_n (pc' := 180) dX2_loudnessAt_179 rfl rfl ?_
        refine mw_getR (pc' := 183) dX2_loudnessAt_180 rfl flX2_34 rfl (skT_11 hS) ?_
        rw [skR_11_7 hS]
        refine mw_callV (pc' := 186) (b' := (0, 0)) (b1 := b) (av := [.inl (mI h6 (y10 + 2) v6.toNatClampNeg), .inl (mI h6 (y12 + 3) v6.toNatClampNeg), .inr (some 26)]) (rest := []) dX2_loudnessAt_183 rfl lkX2_66 rfl rfl (Nat.le_of_ble_eq_true rfl) ⟨Nat.le_of_eq (Nat.zero_add _), Nat.le_of_eq (Nat.zero_add _)⟩ (ty10) ?_
        refine mC_mono (fun r h14 hr => ?_) K
        obtain ⟨x15, rfl, hS, ty1, ty2, ty4, ty8, ty9, ty10, ty12, K⟩ := hr
        show mW _ _ _ _ _ _ [.inl x15] _ _
        refine mw_istore (pc' := 188) dX2_loudnessAt_186 rfl (by decide) ?_
        show mW _ _ _ _ _ [some (.inr (some 11)), none, none, none, none, none, some (.inl v6), some (.inl x15)] _ _ _
        refine mw_iconst (pc' := 189) (v := 0) dX2_loudnessAt_188 rfl (by decide) ?_
        refine mw_bipush (pc' := 191) (v := 99) dX2_loudnessAt_189 rfl (by decide) ?_
        refine mw_iload (pc' := 193) dX2_loudnessAt_191 rfl rfl ?_
        refine mw_mmin (pc' := 196) dX2_loudnessAt_193 rfl lkX2_77 (Nat.le_of_ble_eq_true rfl) ?_
        refine mw_mmax (pc' := 199) dX2_loudnessAt_196 rfl lkX2_81 (Nat.le_of_ble_eq_true rfl) ?_
        exact mw_iret dX2_loudnessAt_199 rfl rfl K

set_option maxRecDepth 100000 in
set_option maxHeartbeats 4000000 in
theorem qX2_holdsIn {G : mG} {d : Nat} {b : Nat × Nat} {h : mH} {Q : Option mV → mH → Prop} (a1 : Nat) (a2 : Nat) (a3 : Nat) (v4 : Int32) (v5 : Int32) (ta1 : mT h a1 = 8) (ta2 : mT h a2 = 6) (ta3 : mT h a3 = 2) (hS : mSk h)
    (K : vp_in (((mI h a3 0) * 32) + v4) 256 ∧ (((v5 &&& (m_not (mI h (a1 + 1) (((mI h a3 0) * 32) + v4).toNatClampNeg))) = 0 → (((v5 &&& (m_not (mI h (a1 + 1) (((mI h a3 0) * 32) + v4).toNatClampNeg))) = 0 → mW G kX2_holdsIn (d + 3) b 80 [some (.inr (some 11)), some (.inr (some a1)), none, some (.inr (some a3)), some (.inl v4), none, some (.inl (((mI h a3 0) * 32) + v4)), some (.inl (v5 &&& (m_not (mI h (a1 + 1) (((mI h a3 0) * 32) + v4).toNatClampNeg)))), some (.inl 0), some (.inl (v5 &&& (m_not (mI h (a1 + 1) (((mI h a3 0) * 32) + v4).toNatClampNeg)))), some (.inl 0), none, none] [] h Q) ∧ (¬ (v5 &&& (m_not (mI h (a1 + 1) (((mI h a3 0) * 32) + v4).toNatClampNeg))) = 0 → mC G kX2_listen (d + 2) (0, 0) [.inr (some 11), .inl (mI h a1 1), .inl (mI h a2 3), .inl (mI h a2 4)] h (fun r h2 => r = none ∧ mSk h2 ∧ mT h2 a1 = 8 ∧ mT h2 a2 = 6 ∧ mT h2 a3 = 2 ∧ mW G kX2_holdsIn (d + 3) b 80 [some (.inr (some 11)), some (.inr (some a1)), none, some (.inr (some a3)), some (.inl v4), none, some (.inl (((mI h a3 0) * 32) + v4)), some (.inl (v5 &&& (m_not (mI h (a1 + 1) (((mI h a3 0) * 32) + v4).toNatClampNeg)))), some (.inl 0), some (.inl (v5 &&& (m_not (mI h (a1 + 1) (((mI h a3 0) * 32) + v4).toNatClampNeg)))), some (.inl 0), none, none] [] h2 Q)))) ∧ (¬ (v5 &&& (m_not (mI h (a1 + 1) (((mI h a3 0) * 32) + v4).toNatClampNeg))) = 0 → (((mI h a1 0) = 0 → (((v5 &&& (m_not (mI h (a1 + 1) (((mI h a3 0) * 32) + v4).toNatClampNeg))) = 0 → mW G kX2_holdsIn (d + 3) b 80 [some (.inr (some 11)), some (.inr (some a1)), none, some (.inr (some a3)), some (.inl v4), none, some (.inl (((mI h a3 0) * 32) + v4)), some (.inl (v5 &&& (m_not (mI h (a1 + 1) (((mI h a3 0) * 32) + v4).toNatClampNeg)))), some (.inl 0), some (.inl (v5 &&& (m_not (mI h (a1 + 1) (((mI h a3 0) * 32) + v4).toNatClampNeg)))), some (.inl 0), none, none] [] h Q) ∧ (¬ (v5 &&& (m_not (mI h (a1 + 1) (((mI h a3 0) * 32) + v4).toNatClampNeg))) = 0 → mC G kX2_listen (d + 2) (0, 0) [.inr (some 11), .inl (mI h a1 1), .inl (mI h a2 3), .inl (mI h a2 4)] h (fun r h4 => r = none ∧ mSk h4 ∧ mT h4 a1 = 8 ∧ mT h4 a2 = 6 ∧ mT h4 a3 = 2 ∧ mW G kX2_holdsIn (d + 3) b 80 [some (.inr (some 11)), some (.inr (some a1)), none, some (.inr (some a3)), some (.inl v4), none, some (.inl (((mI h a3 0) * 32) + v4)), some (.inl (v5 &&& (m_not (mI h (a1 + 1) (((mI h a3 0) * 32) + v4).toNatClampNeg)))), some (.inl 0), some (.inl (v5 &&& (m_not (mI h (a1 + 1) (((mI h a3 0) * 32) + v4).toNatClampNeg)))), some (.inl 0), none, none] [] h4 Q)))) ∧ (¬ (mI h a1 0) = 0 → mC G kX1_sweep (d + 2) (0, 0) [.inr (some a3), .inl (mI h a1 1)] h (fun r h6 => r = none ∧ mSk h6 ∧ mT h6 a1 = 8 ∧ mT h6 a2 = 6 ∧ mT h6 a3 = 2 ∧ mW G kX2_holdsIn (d + 3) b 80 [some (.inr (some 11)), some (.inr (some a1)), none, some (.inr (some a3)), some (.inl v4), none, some (.inl (((mI h a3 0) * 32) + v4)), some (.inl (v5 &&& (m_not (mI h (a1 + 1) (((mI h a3 0) * 32) + v4).toNatClampNeg)))), some (.inl 0), some (.inl (v5 &&& (m_not (mI h (a1 + 1) (((mI h a3 0) * 32) + v4).toNatClampNeg)))), some (.inl 0), none, none] [] h6 Q)))))) : mC G kX2_holdsIn (d + 3) b [.inr (some 11), .inr (some a1), .inr (some a2), .inr (some a3), .inl v4, .inl v5] h Q := by
  refine mC_in rfl (Nat.le_of_ble_eq_true rfl) ?_
  show mW _ _ _ _ _ [some (.inr (some 11)), some (.inr (some a1)), some (.inr (some a2)), some (.inr (some a3)), some (.inl v4), some (.inl v5), none, none, none, none, none, none, none] _ _ _
  refine mw_aload_n (pc' := 1) dX2_holdsIn_0 rfl rfl ?_
  refine mw_getI (pc' := 4) dX2_holdsIn_1 rfl flX2_84 rfl (ta3) ?_
  refine mw_bipush (pc' := 6) (v := 32) dX2_holdsIn_4 rfl (by decide) ?_
  refine mw_imul (pc' := 7) dX2_holdsIn_6 rfl ?_
  refine mw_iload (pc' := 9) dX2_holdsIn_7 rfl rfl ?_
  refine mw_iadd (pc' := 10) dX2_holdsIn_9 rfl ?_
  refine mw_istore (pc' := 12) dX2_holdsIn_10 rfl (by decide) ?_
  show mW _ _ _ _ _ [some (.inr (some 11)), some (.inr (some a1)), some (.inr (some a2)), some (.inr (some a3)), some (.inl v4), some (.inl v5), some (.inl (((mI h a3 0) * 32) + v4)), none, none, none, none, none, none] _ _ _
  refine mw_iload (pc' := 14) dX2_holdsIn_12 rfl rfl ?_
  refine mw_aload_n (pc' := 15) dX2_holdsIn_14 rfl rfl ?_
  refine mw_getR (pc' := 18) dX2_holdsIn_15 rfl flX2_87 rfl (ta1) ?_
  rw [skBR_7_4 hS ta1]
  refine mw_iload (pc' := 20) dX2_holdsIn_18 rfl rfl ?_
  obtain ⟨o1, K⟩ := K
  refine mw_ialdL (pc' := 21) dX2_holdsIn_20 rfl (skBT_7_1 hS ta1) (skBL_7_1 hS ta1) o1 ?_
  refine mw_iconst (pc' := 22) (v := (-1)) dX2_holdsIn_21 rfl (by decide) ?_
  refine mw_ixorM (pc' := 23) dX2_holdsIn_22 rfl ?_
  refine mw_iand (pc' := 24) dX2_holdsIn_23 rfl ?_
  refine mw_istore (pc' := 26) dX2_holdsIn_24 rfl (by decide) ?_
  show mW _ _ _ _ _ [some (.inr (some 11)), some (.inr (some a1)), some (.inr (some a2)), some (.inr (some a3)), some (.inl v4), some (.inl v5), some (.inl (((mI h a3 0) * 32) + v4)), some (.inl (v5 &&& (m_not (mI h (a1 + 1) (((mI h a3 0) * 32) + v4).toNatClampNeg)))), none, none, none, none, none] _ _ _
  refine mw_iload (pc' := 28) dX2_holdsIn_26 rfl rfl ?_
  refine mw_if_eq (pc' := 31) (tgt := 49) dX2_holdsIn_28 rfl (by decide) (fun c8 => ?_) (fun c8 => ?_)
  · replace K := K.1 c8
    refine mw_iload (pc' := 51) dX2_holdsIn_49 rfl rfl ?_
    refine mw_if_eq (pc' := 54) (tgt := 70) dX2_holdsIn_51 rfl (by decide) (fun c3 => ?_) (fun c3 => ?_)
    · replace K := K.1 c3
      refine mw_iconst (pc' := 71) (v := 0) dX2_holdsIn_70 rfl (by decide) ?_
      refine mw_istore (pc' := 73) dX2_holdsIn_71 rfl (by decide) ?_
      show mW _ _ _ _ _ [some (.inr (some 11)), some (.inr (some a1)), some (.inr (some a2)), some (.inr (some a3)), some (.inl v4), some (.inl v5), some (.inl (((mI h a3 0) * 32) + v4)), some (.inl (v5 &&& (m_not (mI h (a1 + 1) (((mI h a3 0) * 32) + v4).toNatClampNeg)))), some (.inl 0), none, none, none, none] _ _ _
      refine mw_iload (pc' := 75) dX2_holdsIn_73 rfl rfl ?_
      refine mw_istore (pc' := 77) dX2_holdsIn_75 rfl (by decide) ?_
      show mW _ _ _ _ _ [some (.inr (some 11)), some (.inr (some a1)), some (.inr (some a2)), some (.inr (some a3)), some (.inl v4), some (.inl v5), some (.inl (((mI h a3 0) * 32) + v4)), some (.inl (v5 &&& (m_not (mI h (a1 + 1) (((mI h a3 0) * 32) + v4).toNatClampNeg)))), some (.inl 0), some (.inl (v5 &&& (m_not (mI h (a1 + 1) (((mI h a3 0) * 32) + v4).toNatClampNeg)))), none, none, none] _ _ _
      refine mw_iconst (pc' := 78) (v := 0) dX2_holdsIn_77 rfl (by decide) ?_
      refine mw_istore (pc' := 80) dX2_holdsIn_78 rfl (by decide) ?_
      show mW _ _ _ _ _ [some (.inr (some 11)), some (.inr (some a1)), some (.inr (some a2)), some (.inr (some a3)), some (.inl v4), some (.inl v5), some (.inl (((mI h a3 0) * 32) + v4)), some (.inl (v5 &&& (m_not (mI h (a1 + 1) (((mI h a3 0) * 32) + v4).toNatClampNeg)))), some (.inl 0), some (.inl (v5 &&& (m_not (mI h (a1 + 1) (((mI h a3 0) * 32) + v4).toNatClampNeg)))), some (.inl 0), none, none] _ _ _
      refine mw_weak (ls' := [some (.inr (some 11)), some (.inr (some a1)), none, some (.inr (some a3)), some (.inl v4), none, some (.inl (((mI h a3 0) * 32) + v4)), some (.inl (v5 &&& (m_not (mI h (a1 + 1) (((mI h a3 0) * 32) + v4).toNatClampNeg)))), some (.inl 0), some (.inl (v5 &&& (m_not (mI h (a1 + 1) (((mI h a3 0) * 32) + v4).toNatClampNeg)))), some (.inl 0), none, none]) ?_ ?_
      · intro i v hv; match i, hv with
        | 0, hv => exact hv
        | 1, hv => exact hv
        | 2, hv => cases hv
        | 3, hv => exact hv
        | 4, hv => exact hv
        | 5, hv => cases hv
        | 6, hv => exact hv
        | 7, hv => exact hv
        | 8, hv => exact hv
        | 9, hv => exact hv
        | 10, hv => exact hv
        | 11, hv => cases hv
        | 12, hv => cases hv
        | n + 13, hv => cases hv
      exact K
    · replace K := K.2 c3
      refine mw_aload_n (pc' := 55) dX2_holdsIn_54 rfl rfl ?_
      refine mw_aload_n (pc' := 56) dX2_holdsIn_55 rfl rfl ?_
      refine mw_getI (pc' := 59) dX2_holdsIn_56 rfl flX2_95 rfl (ta1) ?_
      refine mw_aload_n (pc' := 60) dX2_holdsIn_59 rfl rfl ?_
      refine mw_getI (pc' := 63) dX2_holdsIn_60 rfl flX2_102 rfl (ta2) ?_
      refine mw_aload_n (pc' := 64) dX2_holdsIn_63 rfl rfl ?_
      refine mw_getI (pc' := 67) dX2_holdsIn_64 rfl flX2_107 rfl (ta2) ?_
      refine mw_callV (pc' := 70) (b' := (0, 0)) (b1 := b) (av := [.inl (mI h a1 1), .inl (mI h a2 3), .inl (mI h a2 4)]) (rest := []) dX2_holdsIn_67 rfl lkX2_110 rfl rfl (Nat.le_of_ble_eq_true rfl) ⟨Nat.le_of_eq (Nat.zero_add _), Nat.le_of_eq (Nat.zero_add _)⟩ (skT_11 hS) ?_
      refine mC_mono (fun r h2 hr => ?_) K
      obtain ⟨rfl, hS, ta1, ta2, ta3, K⟩ := hr
      show mW _ _ _ _ _ _ [] _ _
      refine mw_iconst (pc' := 71) (v := 0) dX2_holdsIn_70 rfl (by decide) ?_
      refine mw_istore (pc' := 73) dX2_holdsIn_71 rfl (by decide) ?_
      show mW _ _ _ _ _ [some (.inr (some 11)), some (.inr (some a1)), some (.inr (some a2)), some (.inr (some a3)), some (.inl v4), some (.inl v5), some (.inl (((mI h a3 0) * 32) + v4)), some (.inl (v5 &&& (m_not (mI h (a1 + 1) (((mI h a3 0) * 32) + v4).toNatClampNeg)))), some (.inl 0), none, none, none, none] _ _ _
      refine mw_iload (pc' := 75) dX2_holdsIn_73 rfl rfl ?_
      refine mw_istore (pc' := 77) dX2_holdsIn_75 rfl (by decide) ?_
      show mW _ _ _ _ _ [some (.inr (some 11)), some (.inr (some a1)), some (.inr (some a2)), some (.inr (some a3)), some (.inl v4), some (.inl v5), some (.inl (((mI h a3 0) * 32) + v4)), some (.inl (v5 &&& (m_not (mI h (a1 + 1) (((mI h a3 0) * 32) + v4).toNatClampNeg)))), some (.inl 0), some (.inl (v5 &&& (m_not (mI h (a1 + 1) (((mI h a3 0) * 32) + v4).toNatClampNeg)))), none, none, none] _ _ _
      refine mw_iconst (pc' := 78) (v := 0) dX2_holdsIn_77 rfl (by decide) ?_
      refine mw_istore (pc' := 80) dX2_holdsIn_78 rfl (by decide) ?_
      show mW _ _ _ _ _ [some (.inr (some 11)), some (.inr (some a1)), some (.inr (some a2)), some (.inr (some a3)), some (.inl v4), some (.inl v5), some (.inl (((mI h a3 0) * 32) + v4)), some (.inl (v5 &&& (m_not (mI h (a1 + 1) (((mI h a3 0) * 32) + v4).toNatClampNeg)))), some (.inl 0), some (.inl (v5 &&& (m_not (mI h (a1 + 1) (((mI h a3 0) * 32) + v4).toNatClampNeg)))), some (.inl 0), none, none] _ _ _
      refine mw_weak (ls' := [some (.inr (some 11)), some (.inr (some a1)), none, some (.inr (some a3)), some (.inl v4), none, some (.inl (((mI h a3 0) * 32) + v4)), some (.inl (v5 &&& (m_not (mI h (a1 + 1) (((mI h a3 0) * 32) + v4).toNatClampNeg)))), some (.inl 0), some (.inl (v5 &&& (m_not (mI h (a1 + 1) (((mI h a3 0) * 32) + v4).toNatClampNeg)))), some (.inl 0), none, none]) ?_ ?_
      · intro i v hv; match i, hv with
        | 0, hv => exact hv
        | 1, hv => exact hv
        | 2, hv => cases hv
        | 3, hv => exact hv
        | 4, hv => exact hv
        | 5, hv => cases hv
        | 6, hv => exact hv
        | 7, hv => exact hv
        | 8, hv => exact hv
        | 9, hv => exact hv
        | 10, hv => exact hv
        | 11, hv => cases hv
        | 12, hv => cases hv
        | n + 13, hv => cases hv
      exact K
  · replace K := K.2 c8
    refine mw_aload_n (pc' := 32) dX2_holdsIn_31 rfl rfl ?_
    refine mw_getI (pc' := 35) dX2_holdsIn_32 rfl flX2_92 rfl (ta1) ?_
    refine mw_if_eq (pc' := 38) (tgt := 49) dX2_holdsIn_35 rfl (by decide) (fun c7 => ?_) (fun c7 => ?_)
    · replace K := K.1 c7
      refine mw_iload (pc' := 51) dX2_holdsIn_49 rfl rfl ?_
      refine mw_if_eq (pc' := 54) (tgt := 70) dX2_holdsIn_51 rfl (by decide) (fun c5 => ?_) (fun c5 => ?_)
      · replace K := K.1 c5
        refine mw_iconst (pc' := 71) (v := 0) dX2_holdsIn_70 rfl (by decide) ?_
        refine mw_istore (pc' := 73) dX2_holdsIn_71 rfl (by decide) ?_
        show mW _ _ _ _ _ [some (.inr (some 11)), some (.inr (some a1)), some (.inr (some a2)), some (.inr (some a3)), some (.inl v4), some (.inl v5), some (.inl (((mI h a3 0) * 32) + v4)), some (.inl (v5 &&& (m_not (mI h (a1 + 1) (((mI h a3 0) * 32) + v4).toNatClampNeg)))), some (.inl 0), none, none, none, none] _ _ _
        refine mw_iload (pc' := 75) dX2_holdsIn_73 rfl rfl ?_
        refine mw_istore (pc' := 77) dX2_holdsIn_75 rfl (by decide) ?_
        show mW _ _ _ _ _ [some (.inr (some 11)), some (.inr (some a1)), some (.inr (some a2)), some (.inr (some a3)), some (.inl v4), some (.inl v5), some (.inl (((mI h a3 0) * 32) + v4)), some (.inl (v5 &&& (m_not (mI h (a1 + 1) (((mI h a3 0) * 32) + v4).toNatClampNeg)))), some (.inl 0), some (.inl (v5 &&& (m_not (mI h (a1 + 1) (((mI h a3 0) * 32) + v4).toNatClampNeg)))), none, none, none] _ _ _
        refine mw_iconst (pc' := 78) (v := 0) dX2_holdsIn_77 rfl (by decide) ?_
        refine mw_istore (pc' := 80) dX2_holdsIn_78 rfl (by decide) ?_
        show mW _ _ _ _ _ [some (.inr (some 11)), some (.inr (some a1)), some (.inr (some a2)), some (.inr (some a3)), some (.inl v4), some (.inl v5), some (.inl (((mI h a3 0) * 32) + v4)), some (.inl (v5 &&& (m_not (mI h (a1 + 1) (((mI h a3 0) * 32) + v4).toNatClampNeg)))), some (.inl 0), some (.inl (v5 &&& (m_not (mI h (a1 + 1) (((mI h a3 0) * 32) + v4).toNatClampNeg)))), some (.inl 0), none, none] _ _ _
        refine mw_weak (ls' := [some (.inr (some 11)), some (.inr (some a1)), none, some (.inr (some a3)), some (.inl v4), none, some (.inl (((mI h a3 0) * 32) + v4)), some (.inl (v5 &&& (m_not (mI h (a1 + 1) (((mI h a3 0) * 32) + v4).toNatClampNeg)))), some (.inl 0), some (.inl (v5 &&& (m_not (mI h (a1 + 1) (((mI h a3 0) * 32) + v4).toNatClampNeg)))), some (.inl 0), none, none]) ?_ ?_
        · intro i v hv; match i, hv with
          | 0, hv => exact hv
          | 1, hv => exact hv
          | 2, hv => cases hv
          | 3, hv => exact hv
          | 4, hv => exact hv
          | 5, hv => cases hv
          | 6, hv => exact hv
          | 7, hv => exact hv
          | 8, hv => exact hv
          | 9, hv => exact hv
          | 10, hv => exact hv
          | 11, hv => cases hv
          | 12, hv => cases hv
          | n + 13, hv => cases hv
        exact K
      · replace K := K.2 c5
        refine mw_aload_n (pc' := 55) dX2_holdsIn_54 rfl rfl ?_
        refine mw_aload_n (pc' := 56) dX2_holdsIn_55 rfl rfl ?_
        refine mw_getI (pc' := 59) dX2_holdsIn_56 rfl flX2_95 rfl (ta1) ?_
        refine mw_aload_n (pc' := 60) dX2_holdsIn_59 rfl rfl ?_
        refine mw_getI (pc' := 63) dX2_holdsIn_60 rfl flX2_102 rfl (ta2) ?_
        refine mw_aload_n (pc' := 64) dX2_holdsIn_63 rfl rfl ?_
        refine mw_getI (pc' := 67) dX2_holdsIn_64 rfl flX2_107 rfl (ta2) ?_
        refine mw_callV (pc' := 70) (b' := (0, 0)) (b1 := b) (av := [.inl (mI h a1 1), .inl (mI h a2 3), .inl (mI h a2 4)]) (rest := []) dX2_holdsIn_67 rfl lkX2_110 rfl rfl (Nat.le_of_ble_eq_true rfl) ⟨Nat.le_of_eq (Nat.zero_add _), Nat.le_of_eq (Nat.zero_add _)⟩ (skT_11 hS) ?_
        refine mC_mono (fun r h4 hr => ?_) K
        obtain ⟨rfl, hS, ta1, ta2, ta3, K⟩ := hr
        show mW _ _ _ _ _ _ [] _ _
        refine mw_iconst (pc' := 71) (v := 0) dX2_holdsIn_70 rfl (by decide) ?_
        refine mw_istore (pc' := 73) dX2_holdsIn_71 rfl (by decide) ?_
        show mW _ _ _ _ _ [some (.inr (some 11)), some (.inr (some a1)), some (.inr (some a2)), some (.inr (some a3)), some (.inl v4), some (.inl v5), some (.inl (((mI h a3 0) * 32) + v4)), some (.inl (v5 &&& (m_not (mI h (a1 + 1) (((mI h a3 0) * 32) + v4).toNatClampNeg)))), some (.inl 0), none, none, none, none] _ _ _
        refine mw_iload (pc' := 75) dX2_holdsIn_73 rfl rfl ?_
        refine mw_istore (pc' := 77) dX2_holdsIn_75 rfl (by decide) ?_
        show mW _ _ _ _ _ [some (.inr (some 11)), some (.inr (some a1)), some (.inr (some a2)), some (.inr (some a3)), some (.inl v4), some (.inl v5), some (.inl (((mI h a3 0) * 32) + v4)), some (.inl (v5 &&& (m_not (mI h (a1 + 1) (((mI h a3 0) * 32) + v4).toNatClampNeg)))), some (.inl 0), some (.inl (v5 &&& (m_not (mI h (a1 + 1) (((mI h a3 0) * 32) + v4).toNatClampNeg)))), none, none, none] _ _ _
        refine mw_iconst (pc' := 78) (v := 0) dX2_holdsIn_77 rfl (by decide) ?_
        refine mw_istore (pc' := 80) dX2_holdsIn_78 rfl (by decide) ?_
        show mW _ _ _ _ _ [some (.inr (some 11)), some (.inr (some a1)), some (.inr (some a2)), some (.inr (some a3)), some (.inl v4), some (.inl v5), some (.inl (((mI h a3 0) * 32) + v4)), some (.inl (v5 &&& (m_not (mI h (a1 + 1) (((mI h a3 0) * 32) + v4).toNatClampNeg)))), some (.inl 0), some (.inl (v5 &&& (m_not (mI h (a1 + 1) (((mI h a3 0) * 32) + v4).toNatClampNeg)))), some (.inl 0), none, none] _ _ _
        refine mw_weak (ls' := [some (.inr (some 11)), some (.inr (some a1)), none, some (.inr (some a3)), some (.inl v4), none, some (.inl (((mI h a3 0) * 32) + v4)), some (.inl (v5 &&& (m_not (mI h (a1 + 1) (((mI h a3 0) * 32) + v4).toNatClampNeg)))), some (.inl 0), some (.inl (v5 &&& (m_not (mI h (a1 + 1) (((mI h a3 0) * 32) + v4).toNatClampNeg)))), some (.inl 0), none, none]) ?_ ?_
        · intro i v hv; match i, hv with
          | 0, hv => exact hv
          | 1, hv => exact hv
          | 2, hv => cases hv
          | 3, hv => exact hv
          | 4, hv => exact hv
          | 5, hv => cases hv
          | 6, hv => exact hv
          | 7, hv => exact hv
          | 8, hv => exact hv
          | 9, hv => exact hv
          | 10, hv => exact hv
          | 11, hv => cases hv
          | 12, hv => cases hv
          | n + 13, hv => cases hv
        exact K
    · replace K := K.2 c7
      refine mw_aload_n (pc' := 39) dX2_holdsIn_38 rfl rfl ?_
      refine mw_aload_n (pc' := 40) dX2_holdsIn_39 rfl rfl ?_
      refine mw_getI (pc' := 43) dX2_holdsIn_40 rfl flX2_95 rfl (ta1) ?_
      refine mw_callV (pc' := 46) (b' := (0, 0)) (b1 := b) (av := [.inl (mI h a1 1)]) (rest := []) dX2_holdsIn_43 rfl lkX2_98 rfl rfl (Nat.le_of_ble_eq_true rfl) ⟨Nat.le_of_eq (Nat.zero_add _), Nat.le_of_eq (Nat.zero_add _)⟩ (ta3) ?_
      refine mC_mono (fun r h6 hr => ?_) K
      obtain ⟨rfl, hS, ta1, ta2, ta3, K⟩ := hr
      show mW _ _ _ _ _ _ [] _ _
      refine mw_goto (tgt := 70) dX2_holdsIn_46 (by decide) ?_
      refine mw_iconst (pc' := 71) (v := 0) dX2_holdsIn_70 rfl (by decide) ?_
      refine mw_istore (pc' := 73) dX2_holdsIn_71 rfl (by decide) ?_
      show mW _ _ _ _ _ [some (.inr (some 11)), some (.inr (some a1)), some (.inr (some a2)), some (.inr (some a3)), some (.inl v4), some (.inl v5), some (.inl (((mI h a3 0) * 32) + v4)), some (.inl (v5 &&& (m_not (mI h (a1 + 1) (((mI h a3 0) * 32) + v4).toNatClampNeg)))), some (.inl 0), none, none, none, none] _ _ _
      refine mw_iload (pc' := 75) dX2_holdsIn_73 rfl rfl ?_
      refine mw_istore (pc' := 77) dX2_holdsIn_75 rfl (by decide) ?_
      show mW _ _ _ _ _ [some (.inr (some 11)), some (.inr (some a1)), some (.inr (some a2)), some (.inr (some a3)), some (.inl v4), some (.inl v5), some (.inl (((mI h a3 0) * 32) + v4)), some (.inl (v5 &&& (m_not (mI h (a1 + 1) (((mI h a3 0) * 32) + v4).toNatClampNeg)))), some (.inl 0), some (.inl (v5 &&& (m_not (mI h (a1 + 1) (((mI h a3 0) * 32) + v4).toNatClampNeg)))), none, none, none] _ _ _
      refine mw_iconst (pc' := 78) (v := 0) dX2_holdsIn_77 rfl (by decide) ?_
      refine mw_istore (pc' := 80) dX2_holdsIn_78 rfl (by decide) ?_
      show mW _ _ _ _ _ [some (.inr (some 11)), some (.inr (some a1)), some (.inr (some a2)), some (.inr (some a3)), some (.inl v4), some (.inl v5), some (.inl (((mI h a3 0) * 32) + v4)), some (.inl (v5 &&& (m_not (mI h (a1 + 1) (((mI h a3 0) * 32) + v4).toNatClampNeg)))), some (.inl 0), some (.inl (v5 &&& (m_not (mI h (a1 + 1) (((mI h a3 0) * 32) + v4).toNatClampNeg)))), some (.inl 0), none, none] _ _ _
      refine mw_weak (ls' := [some (.inr (some 11)), some (.inr (some a1)), none, some (.inr (some a3)), some (.inl v4), none, some (.inl (((mI h a3 0) * 32) + v4)), some (.inl (v5 &&& (m_not (mI h (a1 + 1) (((mI h a3 0) * 32) + v4).toNatClampNeg)))), some (.inl 0), some (.inl (v5 &&& (m_not (mI h (a1 + 1) (((mI h a3 0) * 32) + v4).toNatClampNeg)))), some (.inl 0), none, none]) ?_ ?_
      · intro i v hv; match i, hv with
        | 0, hv => exact hv
        | 1, hv => exact hv
        | 2, hv => cases hv
        | 3, hv => exact hv
        | 4, hv => exact hv
        | 5, hv => cases hv
        | 6, hv => exact hv
        | 7, hv => exact hv
        | 8, hv => exact hv
        | 9, hv => exact hv
        | 10, hv => exact hv
        | 11, hv => cases hv
        | 12, hv => cases hv
        | n + 13, hv => cases hv
      exact K

set_option maxRecDepth 100000 in
set_option maxHeartbeats 4000000 in
theorem qX2_holdsIn_80 {G : mG} {d : Nat} {b : Nat × Nat} {h : mH} {Q : Option mV → mH → Prop} (a1 : Nat) (a3 : Nat) (v4 : Int32) (v6 : Int32) (v7 : Int32) (v8 : Int32) (v9 : Int32) (v10 : Int32) (ta1 : mT h a1 = 8) (ta3 : mT h a3 = 2) (hS : mSk h)
    (K : ((v9 = 0 → vp_in v6 256 ∧ vp_in v6 256 ∧ ∀ h3, h3 = mSI h (a1 + 1) v6.toNatClampNeg ((mI h (a1 + 1) v6.toNatClampNeg) ||| v7) → vp_in v6 256 ∧ vp_in v6 256 ∧ ∀ h6, h6 = mSI h3 (a1 + 2) v6.toNatClampNeg ((mI h3 (a1 + 2) v6.toNatClampNeg) ||| v8) → vp_in v6 256 ∧ Q (some (.inl (mI h6 (a1 + 2) v6.toNatClampNeg))) h6) ∧ (¬ v9 = 0 → ((32 ≤ v10 → vp_in v6 256 ∧ vp_in v6 256 ∧ ∀ h10, h10 = mSI h (a1 + 1) v6.toNatClampNeg ((mI h (a1 + 1) v6.toNatClampNeg) ||| v7) → vp_in v6 256 ∧ vp_in v6 256 ∧ ∀ h13, h13 = mSI h10 (a1 + 2) v6.toNatClampNeg ((mI h10 (a1 + 2) v6.toNatClampNeg) ||| v8) → vp_in v6 256 ∧ Q (some (.inl (mI h13 (a1 + 2) v6.toNatClampNeg))) h13) ∧ (¬ (32 ≤ v10) → (((mI h a1 0) = 0 → mC G kX2_loudnessAt (d + 2) (0, 0) [.inr (some 11), .inr (some a3), .inl (f_X11_lowestBit v9), .inl v4] h (fun r h15 => ∃ x16, r = some (.inl x16) ∧ mSk h15 ∧ mT h15 a1 = 8 ∧ mT h15 a3 = 2 ∧ ∀ w17 : Int32, w17 = (if (mI h15 a1 3) < (f_abs (x16 - (mI h15 a1 2))) then 0 else 1) → ∀ w18 : Int32, w18 = (if w17 = 0 then 0 else (m_shl 1 (f_X11_lowestBit v9))) → mW G kX2_holdsIn (d + 3) b 80 [some (.inr (some 11)), some (.inr (some a1)), none, some (.inr (some a3)), some (.inl v4), none, some (.inl v6), some (.inl v7), some (.inl (v8 ||| w18)), some (.inl (v9 &&& (v9 - 1))), some (.inl (v10 + 1)), none, none] [] h15 Q)) ∧ (¬ (mI h a1 0) = 0 → vp_in ((((mI h a1 1) * 1024) + (v4 * 32)) + (f_X11_lowestBit v9)) 4096 ∧ mC G kX7_fitsView (d + 2) (0, 0) [.inr (some a1), .inl (mI h (a3 + 3) ((((mI h a1 1) * 1024) + (v4 * 32)) + (f_X11_lowestBit v9)).toNatClampNeg)] h (fun r h24 => ∃ x25, r = some (.inl x25) ∧ mSk h24 ∧ mT h24 a1 = 8 ∧ mT h24 a3 = 2 ∧ ∀ w26 : Int32, w26 = (if x25 = 0 then 0 else (m_shl 1 (f_X11_lowestBit v9))) → mW G kX2_holdsIn (d + 3) b 80 [some (.inr (some 11)), some (.inr (some a1)), none, some (.inr (some a3)), some (.inl v4), none, some (.inl v6), some (.inl v7), some (.inl (v8 ||| w26)), some (.inl (v9 &&& (v9 - 1))), some (.inl (v10 + 1)), none, none] [] h24 Q)))))))) : mW G kX2_holdsIn (d + 3) b 80 [some (.inr (some 11)), some (.inr (some a1)), none, some (.inr (some a3)), some (.inl v4), none, some (.inl v6), some (.inl v7), some (.inl v8), some (.inl v9), some (.inl v10), none, none] [] h Q := by
  refine mw_iload (pc' := 82) dX2_holdsIn_80 rfl rfl ?_
  refine mw_if_eq (pc' := 85) (tgt := 201) dX2_holdsIn_82 rfl (by decide) (fun c31 => ?_) (fun c31 => ?_)
  · replace K := K.1 c31
    refine mw_aload_n (pc' := 202) dX2_holdsIn_201 rfl rfl ?_
    refine mw_getR (pc' := 205) dX2_holdsIn_202 rfl flX2_87 rfl (ta1) ?_
    rw [skBR_7_4 hS ta1]
    refine mw_iload (pc' := 207) dX2_holdsIn_205 rfl rfl ?_
    refine mw_dup2 (pc' := 208) dX2_holdsIn_207 rfl ?_
    obtain ⟨o1, K⟩ := K
    refine mw_ialdL (pc' := 209) dX2_holdsIn_208 rfl (skBT_7_1 hS ta1) (skBL_7_1 hS ta1) o1 ?_
    refine mw_iload (pc' := 211) dX2_holdsIn_209 rfl rfl ?_
    refine mw_ior (pc' := 212) dX2_holdsIn_211 rfl ?_
    obtain ⟨o2, K⟩ := K
    refine mw_iastK (pc' := 213) dX2_holdsIn_212 rfl (skBT_7_1 hS ta1) (skBL_7_1 hS ta1) o2 hS (fun h3 eh3 hS => ?_)
    replace K := K h3 eh3
    have ta1 : mT h3 a1 = 8 := by rw [eh3]; exact ta1
    have ta3 : mT h3 a3 = 2 := by rw [eh3]; exact ta3
    refine mw_aload_n (pc' := 214) dX2_holdsIn_213 rfl rfl ?_
    refine mw_getR (pc' := 217) dX2_holdsIn_214 rfl flX2_133 rfl (ta1) ?_
    rw [skBR_7_5 hS ta1]
    refine mw_iload (pc' := 219) dX2_holdsIn_217 rfl rfl ?_
    refine mw_dup2 (pc' := 220) dX2_holdsIn_219 rfl ?_
    obtain ⟨o4, K⟩ := K
    refine mw_ialdL (pc' := 221) dX2_holdsIn_220 rfl (skBT_7_2 hS ta1) (skBL_7_2 hS ta1) o4 ?_
    refine mw_iload (pc' := 223) dX2_holdsIn_221 rfl rfl ?_
    refine mw_ior (pc' := 224) dX2_holdsIn_223 rfl ?_
    obtain ⟨o5, K⟩ := K
    refine mw_iastK (pc' := 225) dX2_holdsIn_224 rfl (skBT_7_2 hS ta1) (skBL_7_2 hS ta1) o5 hS (fun h6 eh6 hS => ?_)
    replace K := K h6 eh6
    have ta1 : mT h6 a1 = 8 := by rw [eh6]; exact ta1
    have ta3 : mT h6 a3 = 2 := by rw [eh6]; exact ta3
    refine mw_aload_n (pc' := 226) dX2_holdsIn_225 rfl rfl ?_
    refine mw_getR (pc' := 229) dX2_holdsIn_226 rfl flX2_133 rfl (ta1) ?_
    rw [skBR_7_5 hS ta1]
    refine mw_iload (pc' := 231) dX2_holdsIn_229 rfl rfl ?_
    obtain ⟨o7, K⟩ := K
    refine mw_ialdL (pc' := 232) dX2_holdsIn_231 rfl (skBT_7_2 hS ta1) (skBL_7_2 hS ta1) o7 ?_
    exact mw_iret dX2_holdsIn_232 rfl rfl K
  · replace K := K.2 c31
    refine mw_iload (pc' := 87) dX2_holdsIn_85 rfl rfl ?_
    refine mw_bipush (pc' := 89) (v := 32) dX2_holdsIn_87 rfl (by decide) ?_
    refine mw_icmp_ge (pc' := 92) (tgt := 201) dX2_holdsIn_89 rfl (by decide) (fun c30 => ?_) (fun c30 => ?_)
    · replace K := K.1 c30
      refine mw_aload_n (pc' := 202) dX2_holdsIn_201 rfl rfl ?_
      refine mw_getR (pc' := 205) dX2_holdsIn_202 rfl flX2_87 rfl (ta1) ?_
      rw [skBR_7_4 hS ta1]
      refine mw_iload (pc' := 207) dX2_holdsIn_205 rfl rfl ?_
      refine mw_dup2 (pc' := 208) dX2_holdsIn_207 rfl ?_
      obtain ⟨o8, K⟩ := K
      refine mw_ialdL (pc' := 209) dX2_holdsIn_208 rfl (skBT_7_1 hS ta1) (skBL_7_1 hS ta1) o8 ?_
      refine mw_iload (pc' := 211) dX2_holdsIn_209 rfl rfl ?_
      refine mw_ior (pc' := 212) dX2_holdsIn_211 rfl ?_
      obtain ⟨o9, K⟩ := K
      refine mw_iastK (pc' := 213) dX2_holdsIn_212 rfl (skBT_7_1 hS ta1) (skBL_7_1 hS ta1) o9 hS (fun h10 eh10 hS => ?_)
      replace K := K h10 eh10
      have ta1 : mT h10 a1 = 8 := by rw [eh10]; exact ta1
      have ta3 : mT h10 a3 = 2 := by rw [eh10]; exact ta3
      refine mw_aload_n (pc' := 214) dX2_holdsIn_213 rfl rfl ?_
      refine mw_getR (pc' := 217) dX2_holdsIn_214 rfl flX2_133 rfl (ta1) ?_
      rw [skBR_7_5 hS ta1]
      refine mw_iload (pc' := 219) dX2_holdsIn_217 rfl rfl ?_
      refine mw_dup2 (pc' := 220) dX2_holdsIn_219 rfl ?_
      obtain ⟨o11, K⟩ := K
      refine mw_ialdL (pc' := 221) dX2_holdsIn_220 rfl (skBT_7_2 hS ta1) (skBL_7_2 hS ta1) o11 ?_
      refine mw_iload (pc' := 223) dX2_holdsIn_221 rfl rfl ?_
      refine mw_ior (pc' := 224) dX2_holdsIn_223 rfl ?_
      obtain ⟨o12, K⟩ := K
      refine mw_iastK (pc' := 225) dX2_holdsIn_224 rfl (skBT_7_2 hS ta1) (skBL_7_2 hS ta1) o12 hS (fun h13 eh13 hS => ?_)
      replace K := K h13 eh13
      have ta1 : mT h13 a1 = 8 := by rw [eh13]; exact ta1
      have ta3 : mT h13 a3 = 2 := by rw [eh13]; exact ta3
      refine mw_aload_n (pc' := 226) dX2_holdsIn_225 rfl rfl ?_
      refine mw_getR (pc' := 229) dX2_holdsIn_226 rfl flX2_133 rfl (ta1) ?_
      rw [skBR_7_5 hS ta1]
      refine mw_iload (pc' := 231) dX2_holdsIn_229 rfl rfl ?_
      obtain ⟨o14, K⟩ := K
      refine mw_ialdL (pc' := 232) dX2_holdsIn_231 rfl (skBT_7_2 hS ta1) (skBL_7_2 hS ta1) o14 ?_
      exact mw_iret dX2_holdsIn_232 rfl rfl K
    · replace K := K.2 c30
      refine mw_iload (pc' := 94) dX2_holdsIn_92 rfl rfl ?_
      refine mw_callS (pc' := 97) (b' := (0, 0)) (b1 := b) (av := [.inl v9]) (rest := []) dX2_holdsIn_94 rfl lkX2_114 rfl rfl (Nat.le_of_ble_eq_true rfl) ⟨Nat.le_of_eq (Nat.zero_add _), Nat.le_of_eq (Nat.zero_add _)⟩ ?_
      refine pX11_lowestBit ?_
      refine mw_istore (pc' := 99) dX2_holdsIn_97 rfl (by decide) ?_
      show mW _ _ _ _ _ [some (.inr (some 11)), some (.inr (some a1)), none, some (.inr (some a3)), some (.inl v4), none, some (.inl v6), some (.inl v7), some (.inl v8), some (.inl v9), some (.inl v10), some (.inl (f_X11_lowestBit v9)), none] _ _ _
      refine mw_iload (pc' := 101) dX2_holdsIn_99 rfl rfl ?_
      refine mw_iload (pc' := 103) dX2_holdsIn_101 rfl rfl ?_
      refine mw_iconst (pc' := 104) (v := 1) dX2_holdsIn_103 rfl (by decide) ?_
      refine mw_isub (pc' := 105) dX2_holdsIn_104 rfl ?_
      refine mw_iand (pc' := 106) dX2_holdsIn_105 rfl ?_
      refine mw_istore (pc' := 108) dX2_holdsIn_106 rfl (by decide) ?_
      show mW _ _ _ _ _ [some (.inr (some 11)), some (.inr (some a1)), none, some (.inr (some a3)), some (.inl v4), none, some (.inl v6), some (.inl v7), some (.inl v8), some (.inl (v9 &&& (v9 - 1))), some (.inl v10), some (.inl (f_X11_lowestBit v9)), none] _ _ _
      refine mw_aload_n (pc' := 109) dX2_holdsIn_108 rfl rfl ?_
      refine mw_getI (pc' := 112) dX2_holdsIn_109 rfl flX2_92 rfl (ta1) ?_
      refine mw_if_eq (pc' := 115) (tgt := 146) dX2_holdsIn_112 rfl (by decide) (fun c29 => ?_) (fun c29 => ?_)
      · replace K := K.1 c29
        refine mw_aload_n (pc' := 147) dX2_holdsIn_146 rfl rfl ?_
        refine mw_aload_n (pc' := 148) dX2_holdsIn_147 rfl rfl ?_
        refine mw_iload (pc' := 150) dX2_holdsIn_148 rfl rfl ?_
        refine mw_iload (pc' := 152) dX2_holdsIn_150 rfl rfl ?_
        refine mw_callV (pc' := 155) (b' := (0, 0)) (b1 := b) (av := [.inr (some a3), .inl (f_X11_lowestBit v9), .inl v4]) (rest := []) dX2_holdsIn_152 rfl lkX2_123 rfl rfl (Nat.le_of_ble_eq_true rfl) ⟨Nat.le_of_eq (Nat.zero_add _), Nat.le_of_eq (Nat.zero_add _)⟩ (skT_11 hS) ?_
        refine mC_mono (fun r h15 hr => ?_) K
        obtain ⟨x16, rfl, hS, ta1, ta3, K⟩ := hr
        show mW _ _ _ _ _ _ [.inl x16] _ _
        refine mw_aload_n (pc' := 156) dX2_holdsIn_155 rfl rfl ?_
        refine mw_getI (pc' := 159) dX2_holdsIn_156 rfl flX2_127 rfl (ta1) ?_
        refine mw_isub (pc' := 160) dX2_holdsIn_159 rfl ?_
        refine mw_mabs (pc' := 163) dX2_holdsIn_160 rfl lkX2_45 (Nat.le_of_ble_eq_true rfl) ?_
        refine mw_aload_n (pc' := 164) dX2_holdsIn_163 rfl rfl ?_
        refine mw_getI (pc' := 167) dX2_holdsIn_164 rfl flX2_130 rfl (ta1) ?_
        have J21 : ∀ w17 : Int32, w17 = (if (mI h15 a1 3) < (f_abs (x16 - (mI h15 a1 2))) then 0 else 1) → mW G kX2_holdsIn (d + 3) b 175 [some (.inr (some 11)), some (.inr (some a1)), none, some (.inr (some a3)), some (.inl v4), none, some (.inl v6), some (.inl v7), some (.inl v8), some (.inl (v9 &&& (v9 - 1))), some (.inl v10), some (.inl (f_X11_lowestBit v9)), none] ([.inl w17]) h15 Q := by
          intro w17 ew17
          replace K := K w17 ew17
          refine mw_istore (pc' := 177) dX2_holdsIn_175 rfl (by decide) ?_
          show mW _ _ _ _ _ [some (.inr (some 11)), some (.inr (some a1)), none, some (.inr (some a3)), some (.inl v4), none, some (.inl v6), some (.inl v7), some (.inl v8), some (.inl (v9 &&& (v9 - 1))), some (.inl v10), some (.inl (f_X11_lowestBit v9)), some (.inl w17)] _ _ _
          refine mw_iload (pc' := 179) dX2_holdsIn_177 rfl rfl ?_
          refine mw_iload (pc' := 181) dX2_holdsIn_179 rfl rfl ?_
          have J19 : ∀ w18 : Int32, w18 = (if w17 = 0 then 0 else (m_shl 1 (f_X11_lowestBit v9))) → mW G kX2_holdsIn (d + 3) b 192 [some (.inr (some 11)), some (.inr (some a1)), none, some (.inr (some a3)), some (.inl v4), none, some (.inl v6), some (.inl v7), some (.inl v8), some (.inl (v9 &&& (v9 - 1))), some (.inl v10), some (.inl (f_X11_lowestBit v9)), some (.inl w17)] ([.inl w18, .inl v8]) h15 Q := by
            intro w18 ew18
            replace K := K w18 ew18
            refine mw_ior (pc' := 193) dX2_holdsIn_192 rfl ?_
            refine mw_istore (pc' := 195) dX2_holdsIn_193 rfl (by decide) ?_
            show mW _ _ _ _ _ [some (.inr (some 11)), some (.inr (some a1)), none, some (.inr (some a3)), some (.inl v4), none, some (.inl v6), some (.inl v7), some (.inl (v8 ||| w18)), some (.inl (v9 &&& (v9 - 1))), some (.inl v10), some (.inl (f_X11_lowestBit v9)), some (.inl w17)] _ _ _
            refine mw_iinc (pc' := 198) (v := v10 + 1) dX2_holdsIn_195 rfl (by decide) rfl rfl ?_
            show mW _ _ _ _ _ [some (.inr (some 11)), some (.inr (some a1)), none, some (.inr (some a3)), some (.inl v4), none, some (.inl v6), some (.inl v7), some (.inl (v8 ||| w18)), some (.inl (v9 &&& (v9 - 1))), some (.inl (v10 + 1)), some (.inl (f_X11_lowestBit v9)), some (.inl w17)] _ _ _
            refine mw_goto (tgt := 80) dX2_holdsIn_198 (by decide) ?_
            refine mw_weak (ls' := [some (.inr (some 11)), some (.inr (some a1)), none, some (.inr (some a3)), some (.inl v4), none, some (.inl v6), some (.inl v7), some (.inl (v8 ||| w18)), some (.inl (v9 &&& (v9 - 1))), some (.inl (v10 + 1)), none, none]) ?_ ?_
            · intro i v hv; match i, hv with
              | 0, hv => exact hv
              | 1, hv => exact hv
              | 2, hv => cases hv
              | 3, hv => exact hv
              | 4, hv => exact hv
              | 5, hv => cases hv
              | 6, hv => exact hv
              | 7, hv => exact hv
              | 8, hv => exact hv
              | 9, hv => exact hv
              | 10, hv => exact hv
              | 11, hv => cases hv
              | 12, hv => cases hv
              | n + 13, hv => cases hv
            exact K
          refine mw_if_eq (pc' := 184) (tgt := 191) dX2_holdsIn_181 rfl (by decide) (fun c20 => ?_) (fun c20 => ?_)
          · refine mw_iconst (pc' := 192) (v := 0) dX2_holdsIn_191 rfl (by decide) ?_
            exact J19 _ (by rw [if_pos c20])
          · refine mw_iconst (pc' := 185) (v := 1) dX2_holdsIn_184 rfl (by decide) ?_
            refine mw_iload (pc' := 187) dX2_holdsIn_185 rfl rfl ?_
            refine mw_ishlM (pc' := 188) dX2_holdsIn_187 rfl ?_
            refine mw_goto (tgt := 192) dX2_holdsIn_188 (by decide) ?_
            exact J19 _ (by rw [if_neg c20])
        refine mw_icmp_gt (pc' := 170) (tgt := 174) dX2_holdsIn_167 rfl (by decide) (fun c22 => ?_) (fun c22 => ?_)
        · refine mw_iconst (pc' := 175) (v := 0) dX2_holdsIn_174 rfl (by decide) ?_
          exact J21 _ (by rw [if_pos c22])
        · refine mw_iconst (pc' := 171) (v := 1) dX2_holdsIn_170 rfl (by decide) ?_
          refine mw_goto (tgt := 175) dX2_holdsIn_171 (by decide) ?_
          exact J21 _ (by rw [if_neg c22])
      · replace K := K.2 c29
        refine mw_aload_n (pc' := 116) dX2_holdsIn_115 rfl rfl ?_
        refine mw_aload_n (pc' := 117) dX2_holdsIn_116 rfl rfl ?_
        refine mw_getR (pc' := 120) dX2_holdsIn_117 rfl flX2_117 rfl (ta3) ?_
        rw [skBR_1_7 hS ta3]
        refine mw_aload_n (pc' := 121) dX2_holdsIn_120 rfl rfl ?_
        refine mw_getI (pc' := 124) dX2_holdsIn_121 rfl flX2_95 rfl (ta1) ?_
        refine mw_sipush (pc' := 127) (v := 1024) dX2_holdsIn_124 rfl (by decide) ?_
        refine mw_imul (pc' := 128) dX2_holdsIn_127 rfl ?_
        refine mw_iload (pc' := 130) dX2_holdsIn_128 rfl rfl ?_
        refine mw_bipush (pc' := 132) (v := 32) dX2_holdsIn_130 rfl (by decide) ?_
        refine mw_imul (pc' := 133) dX2_holdsIn_132 rfl ?_
        refine mw_iadd (pc' := 134) dX2_holdsIn_133 rfl ?_
        refine mw_iload (pc' := 136) dX2_holdsIn_134 rfl rfl ?_
        refine mw_iadd (pc' := 137) dX2_holdsIn_136 rfl ?_
        obtain ⟨o23, K⟩ := K
        refine mw_ialdL (pc' := 138) dX2_holdsIn_137 rfl (skBT_1_3 hS ta3) (skBL_1_3 hS ta3) o23 ?_
        refine mw_callV (pc' := 141) (b' := (0, 0)) (b1 := b) (av := [.inl (mI h (a3 + 3) ((((mI h a1 1) * 1024) + (v4 * 32)) + (f_X11_lowestBit v9)).toNatClampNeg)]) (rest := []) dX2_holdsIn_138 rfl lkX2_120 rfl rfl (Nat.le_of_ble_eq_true rfl) ⟨Nat.le_of_eq (Nat.zero_add _), Nat.le_of_eq (Nat.zero_add _)⟩ (ta1) ?_
        refine mC_mono (fun r h24 hr => ?_) K
        obtain ⟨x25, rfl, hS, ta1, ta3, K⟩ := hr
        show mW _ _ _ _ _ _ [.inl x25] _ _
        refine mw_istore (pc' := 143) dX2_holdsIn_141 rfl (by decide) ?_
        show mW _ _ _ _ _ [some (.inr (some 11)), some (.inr (some a1)), none, some (.inr (some a3)), some (.inl v4), none, some (.inl v6), some (.inl v7), some (.inl v8), some (.inl (v9 &&& (v9 - 1))), some (.inl v10), some (.inl (f_X11_lowestBit v9)), some (.inl x25)] _ _ _
        refine mw_goto (tgt := 177) dX2_holdsIn_143 (by decide) ?_
        refine mw_iload (pc' := 179) dX2_holdsIn_177 rfl rfl ?_
        refine mw_iload (pc' := 181) dX2_holdsIn_179 rfl rfl ?_
        have J27 : ∀ w26 : Int32, w26 = (if x25 = 0 then 0 else (m_shl 1 (f_X11_lowestBit v9))) → mW G kX2_holdsIn (d + 3) b 192 [some (.inr (some 11)), some (.inr (some a1)), none, some (.inr (some a3)), some (.inl v4), none, some (.inl v6), some (.inl v7), some (.inl v8), some (.inl (v9 &&& (v9 - 1))), some (.inl v10), some (.inl (f_X11_lowestBit v9)), some (.inl x25)] ([.inl w26, .inl v8]) h24 Q := by
          intro w26 ew26
          replace K := K w26 ew26
          refine mw_ior (pc' := 193) dX2_holdsIn_192 rfl ?_
          refine mw_istore (pc' := 195) dX2_holdsIn_193 rfl (by decide) ?_
          show mW _ _ _ _ _ [some (.inr (some 11)), some (.inr (some a1)), none, some (.inr (some a3)), some (.inl v4), none, some (.inl v6), some (.inl v7), some (.inl (v8 ||| w26)), some (.inl (v9 &&& (v9 - 1))), some (.inl v10), some (.inl (f_X11_lowestBit v9)), some (.inl x25)] _ _ _
          refine mw_iinc (pc' := 198) (v := v10 + 1) dX2_holdsIn_195 rfl (by decide) rfl rfl ?_
          show mW _ _ _ _ _ [some (.inr (some 11)), some (.inr (some a1)), none, some (.inr (some a3)), some (.inl v4), none, some (.inl v6), some (.inl v7), some (.inl (v8 ||| w26)), some (.inl (v9 &&& (v9 - 1))), some (.inl (v10 + 1)), some (.inl (f_X11_lowestBit v9)), some (.inl x25)] _ _ _
          refine mw_goto (tgt := 80) dX2_holdsIn_198 (by decide) ?_
          refine mw_weak (ls' := [some (.inr (some 11)), some (.inr (some a1)), none, some (.inr (some a3)), some (.inl v4), none, some (.inl v6), some (.inl v7), some (.inl (v8 ||| w26)), some (.inl (v9 &&& (v9 - 1))), some (.inl (v10 + 1)), none, none]) ?_ ?_
          · intro i v hv; match i, hv with
            | 0, hv => exact hv
            | 1, hv => exact hv
            | 2, hv => cases hv
            | 3, hv => exact hv
            | 4, hv => exact hv
            | 5, hv => cases hv
            | 6, hv => exact hv
            | 7, hv => exact hv
            | 8, hv => exact hv
            | 9, hv => exact hv
            | 10, hv => exact hv
            | 11, hv => cases hv
            | 12, hv => cases hv
            | n + 13, hv => cases hv
          exact K
        refine mw_if_eq (pc' := 184) (tgt := 191) dX2_holdsIn_181 rfl (by decide) (fun c28 => ?_) (fun c28 => ?_)
        · refine mw_iconst (pc' := 192) (v := 0) dX2_holdsIn_191 rfl (by decide) ?_
          exact J27 _ (by rw [if_pos c28])
        · refine mw_iconst (pc' := 185) (v := 1) dX2_holdsIn_184 rfl (by decide) ?_
          refine mw_iload (pc' := 187) dX2_holdsIn_185 rfl rfl ?_
          refine mw_ishlM (pc' := 188) dX2_holdsIn_187 rfl ?_
          refine mw_goto (tgt := 192) dX2_holdsIn_188 (by decide) ?_
          exact J27 _ (by rw [if_neg c28])
