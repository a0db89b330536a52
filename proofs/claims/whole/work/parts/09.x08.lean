set_option maxRecDepth 100000 in
set_option maxHeartbeats 4000000 in
theorem qX8_tell {G : mG} {d : Nat} {b : Nat × Nat} {h : mH} {Q : Option mV → mH → Prop} (v1 : Int32) (v2 : Int32) (v3 : Int32) (v4 : Int32) (hS : mSk h)
    (K : vp_in v1 6 ∧ ∀ h2, h2 = mSI h 42 v1.toNatClampNeg v2 → vp_in v1 6 ∧ ∀ h4, h4 = mSI h2 43 v1.toNatClampNeg v3 → vp_in v1 6 ∧ ∀ h6, h6 = mSI h4 44 v1.toNatClampNeg v4 → ∀ h7, h7 = mSI h6 41 3 ((mI h6 41 3) ||| (m_shl 1 v1)) → Q none h7) : mC G kX8_tell d b [.inr (some 41), .inl v1, .inl v2, .inl v3, .inl v4] h Q := by
  refine mC_in rfl (Nat.le_of_ble_eq_true rfl) ?_
  show mW _ _ _ _ _ [some (.inr (some 41)), some (.inl v1), some (.inl v2), some (.inl v3), some (.inl v4)] _ _ _
  refine mw_aload_n (pc' := 1) dX8_tell_0 rfl rfl ?_
  refine mw_getR (pc' := 4) dX8_tell_1 rfl flX8_9 rfl (skT_41 hS) ?_
  rw [skR_41_0 hS]
  refine mw_iload_n (pc' := 5) dX8_tell_4 rfl rfl ?_
  refine mw_iload_n (pc' := 6) dX8_tell_5 rfl rfl ?_
  obtain ⟨o1, K⟩ := K
  refine mw_iastK (pc' := 7) dX8_tell_6 rfl (skT_42 hS) (skL_42 hS) o1 hS (fun h2 eh2 hS => ?_)
  replace K := K h2 eh2
  refine mw_aload_n (pc' := 8) dX8_tell_7 rfl rfl ?_
  refine mw_getR (pc' := 11) dX8_tell_8 rfl flX8_15 rfl (skT_41 hS) ?_
  rw [skR_41_1 hS]
  refine mw_iload_n (pc' := 12) dX8_tell_11 rfl rfl ?_
  refine mw_iload_n (pc' := 13) dX8_tell_12 rfl rfl ?_
  obtain ⟨o3, K⟩ := K
  refine mw_iastK (pc' := 14) dX8_tell_13 rfl (skT_43 hS) (skL_43 hS) o3 hS (fun h4 eh4 hS => ?_)
  replace K := K h4 eh4
  refine mw_aload_n (pc' := 15) dX8_tell_14 rfl rfl ?_
  refine mw_getR (pc' := 18) dX8_tell_15 rfl flX8_18 rfl (skT_41 hS) ?_
  rw [skR_41_2 hS]
  refine mw_iload_n (pc' := 19) dX8_tell_18 rfl rfl ?_
  refine mw_iload (pc' := 21) dX8_tell_19 rfl rfl ?_
  obtain ⟨o5, K⟩ := K
  refine mw_iastK (pc' := 22) dX8_tell_21 rfl (skT_44 hS) (skL_44 hS) o5 hS (fun h6 eh6 hS => ?_)
  replace K := K h6 eh6
  refine mw_aload_n (pc' := 23) dX8_tell_22 rfl rfl ?_
  refine mw_dup (pc' := 24) dX8_tell_23 rfl ?_
  refine mw_getI (pc' := 27) dX8_tell_24 rfl flX8_27 rfl (skT_41 hS) ?_
  refine mw_iconst (pc' := 28) (v := 1) dX8_tell_27 rfl (by decide) ?_
  refine mw_iload_n (pc' := 29) dX8_tell_28 rfl rfl ?_
  refine mw_ishlM (pc' := 30) dX8_tell_29 rfl ?_
  refine mw_ior (pc' := 31) dX8_tell_30 rfl ?_
  refine mw_putIK (pc' := 34) dX8_tell_31 rfl flX8_27 rfl (Or.inl rfl) ⟨rfl, rfl⟩ (skT_41 hS) hS (fun h7 eh7 hS => ?_)
  replace K := K h7 eh7
  exact mw_ret dX8_tell_34 rfl K

set_option maxRecDepth 100000 in
set_option maxHeartbeats 4000000 in
theorem qX8_isTold {G : mG} {d : Nat} {b : Nat × Nat} {h : mH} {Q : Option mV → mH → Prop} (v1 : Int32) (hS : mSk h)
    (K : ∀ w1 : Int32, w1 = (if ¬ ((m_ushr (mI h 41 3) v1) &&& 1) = 1 then 0 else 1) → Q (some (.inl w1)) h) : mC G kX8_isTold d b [.inr (some 41), .inl v1] h Q := by
  refine mC_in rfl (Nat.le_of_ble_eq_true rfl) ?_
  show mW _ _ _ _ _ [some (.inr (some 41)), some (.inl v1)] _ _ _
  refine mw_aload_n (pc' := 1) dX8_isTold_0 rfl rfl ?_
  refine mw_getI (pc' := 4) dX8_isTold_1 rfl flX8_27 rfl (skT_41 hS) ?_
  refine mw_iload_n (pc' := 5) dX8_isTold_4 rfl rfl ?_
  refine mw_iushrM (pc' := 6) dX8_isTold_5 rfl ?_
  refine mw_iconst (pc' := 7) (v := 1) dX8_isTold_6 rfl (by decide) ?_
  refine mw_iand (pc' := 8) dX8_isTold_7 rfl ?_
  refine mw_iconst (pc' := 9) (v := 1) dX8_isTold_8 rfl (by decide) ?_
  have J2 : ∀ w1 : Int32, w1 = (if ¬ ((m_ushr (mI h 41 3) v1) &&& 1) = 1 then 0 else 1) → mW G kX8_isTold d b 17 [some (.inr (some 41)), some (.inl v1)] ([.inl w1]) h Q := by
    intro w1 ew1
    replace K := K w1 ew1
    exact mw_iret dX8_isTold_17 rfl (m_boolN (by rw [ew1]; exact (m_boolI m_bool0 m_bool1))) K
  refine mw_icmp_ne (pc' := 12) (tgt := 16) dX8_isTold_9 rfl (by decide) (fun c3 => ?_) (fun c3 => ?_)
  · refine mw_iconst (pc' := 17) (v := 0) dX8_isTold_16 rfl (by decide) ?_
    exact J2 _ (by rw [if_pos c3])
  · refine mw_iconst (pc' := 13) (v := 1) dX8_isTold_12 rfl (by decide) ?_
    refine mw_goto (tgt := 17) dX8_isTold_13 (by decide) ?_
    exact J2 _ (by rw [if_neg (fun z => z c3)])

set_option maxRecDepth 100000 in
set_option maxHeartbeats 4000000 in
theorem qX8_countStates {G : mG} {d : Nat} {b : Nat × Nat} {h : mH} {Q : Option mV → mH → Prop}  (hS : mSk h)
    (K : ∀ h1, h1 = mSI h 41 4 0 → mW G kX8_countStates (d + 2) b 7 [some (.inr (some 41)), some (.inr (some 33)), some (.inr (some 28)), some (.inl 0), none] [] h1 Q) : mC G kX8_countStates (d + 2) b [.inr (some 41), .inr (some 33), .inr (some 28)] h Q := by
  refine mC_in rfl (Nat.le_of_ble_eq_true rfl) ?_
  show mW _ _ _ _ _ [some (.inr (some 41)), some (.inr (some 33)), some (.inr (some 28)), none, none] _ _ _
  refine mw_aload_n (pc' := 1) dX8_countStates_0 rfl rfl ?_
  refine mw_iconst (pc' := 2) (v := 0) dX8_countStates_1 rfl (by decide) ?_
  refine mw_putIK (pc' := 5) dX8_countStates_2 rfl flX8_31 rfl (Or.inl rfl) ⟨rfl, rfl⟩ (skT_41 hS) hS (fun h1 eh1 hS => ?_)
  replace K := K h1 eh1
  refine mw_iconst (pc' := 6) (v := 0) dX8_countStates_5 rfl (by decide) ?_
  refine mw_istore_n (pc' := 7) dX8_countStates_6 rfl (by decide) ?_
  show mW _ _ _ _ _ [some (.inr (some 41)), some (.inr (some 33)), some (.inr (some 28)), some (.inl 0), none] _ _ _
  exact K

set_option maxRecDepth 100000 in
set_option maxHeartbeats 4000000 in
theorem qX8_countStates_7 {G : mG} {d : Nat} {b : Nat × Nat} {h : mH} {Q : Option mV → mH → Prop} (v3 : Int32) (hS : mSk h)
    (K : (((mI h 33 1) ≤ v3 → Q none h) ∧ (¬ ((mI h 33 1) ≤ v3) → vp_in v3 8 ∧ ∃ y2, mR h 34 v3.toNatClampNeg = some y2 ∧ mT h y2 = 2 ∧ mC G kX1_rowsAt (d + 1) (0, 0) [.inr (some y2), .inl ((mI h 28 1) - 1), .inl (mI h 28 2)] h (fun r h3 => ∃ x4, r = some (.inl x4) ∧ mSk h3 ∧ mT h3 y2 = 2 ∧ mC G kX11_bitsIn (d + 1) (0, 0) [.inr (some (y2 + 5)), .inl x4] h3 (fun r h5 => ∃ x6, r = some (.inl x6) ∧ mSk h5 ∧ mT h5 y2 = 2 ∧ ∀ h7, h7 = mSI h5 41 4 ((mI h 41 4) + x6) → mW G kX8_countStates (d + 2) b 7 [some (.inr (some 41)), some (.inr (some 33)), some (.inr (some 28)), some (.inl (v3 + 1)), none] [] h7 Q))))) : mW G kX8_countStates (d + 2) b 7 [some (.inr (some 41)), some (.inr (some 33)), some (.inr (some 28)), some (.inl v3), none] [] h Q := by
  refine mw_iload_n (pc' := 8) dX8_countStates_7 rfl rfl ?_
  refine mw_aload_n (pc' := 9) dX8_countStates_8 rfl rfl ?_
  refine mw_getI (pc' := 12) dX8_countStates_9 rfl flX8_34 rfl (skT_33 hS) ?_
  refine mw_icmp_ge (pc' := 15) (tgt := 61) dX8_countStates_12 rfl (by decide) (fun c8 => ?_) (fun c8 => ?_)
  · replace K := K.1 c8
    exact mw_ret dX8_countStates_61 rfl K
  · replace K := K.2 c8
    refine mw_aload_n (pc' := 16) dX8_countStates_15 rfl rfl ?_
    refine mw_getR (pc' := 19) dX8_countStates_16 rfl flX8_39 rfl (skT_33 hS) ?_
    rw [skR_33_0 hS]
    refine mw_iload_n (pc' := 20) dX8_countStates_19 rfl rfl ?_
    obtain ⟨o1, K⟩ := K
    refine mw_aaldL (pc' := 21) dX8_countStates_20 rfl (t := 0) (by decide) (skT_34 hS) (skL_34 hS) o1 ?_
    refine mw_astore (pc' := 23) dX8_countStates_21 rfl (by decide) ?_
    show mW _ _ _ _ _ [some (.inr (some 41)), some (.inr (some 33)), some (.inr (some 28)), some (.inl v3), some (.inr (mR h 34 v3.toNatClampNeg))] _ _ _
    refine mw_aload_n (pc' := 24) dX8_countStates_23 rfl rfl ?_
    refine mw_dup (pc' := 25) dX8_countStates_24 rfl ?_
    refine mw_getI (pc' := 28) dX8_countStates_25 rfl flX8_31 rfl (skT_41 hS) ?_
    refine mw_aload (pc' := 30) dX8_countStates_28 rfl rfl ?_
    obtain ⟨y2, ey2, ty2, K⟩ := K
    rw [ey2]
    refine mw_getR (pc' := 33) dX8_countStates_30 rfl flX8_43 rfl (ty2) ?_
    rw [skBR_1_9 hS ty2]
    refine mw_aload (pc' := 35) dX8_countStates_33 rfl rfl ?_
    refine mw_aload_n (pc' := 36) dX8_countStates_35 rfl rfl ?_
    refine mw_getI (pc' := 39) dX8_countStates_36 rfl flX8_48 rfl (skT_28 hS) ?_
    refine mw_iconst (pc' := 40) (v := 1) dX8_countStates_39 rfl (by decide) ?_
    refine mw_isub (pc' := 41) dX8_countStates_40 rfl ?_
    refine mw_aload_n (pc' := 42) dX8_countStates_41 rfl rfl ?_
    refine mw_getI (pc' := 45) dX8_countStates_42 rfl flX8_51 rfl (skT_28 hS) ?_
    refine mw_callV (pc' := 48) (b' := (0, 0)) (b1 := b) (av := [.inl ((mI h 28 1) - 1), .inl (mI h 28 2)]) (rest := [.inr (some (y2 + 5)), .inl (mI h 41 4), .inr (some 41)]) dX8_countStates_45 rfl lkX8_54 rfl rfl (Nat.le_of_ble_eq_true rfl) ⟨Nat.le_of_eq (Nat.zero_add _), Nat.le_of_eq (Nat.zero_add _)⟩ (ty2) ?_
    refine mC_mono (fun r h3 hr => ?_) K
    obtain ⟨x4, rfl, hS, ty2, K⟩ := hr
    show mW _ _ _ _ _ _ [.inl x4, .inr (some (y2 + 5)), .inl (mI h 41 4), .inr (some 41)] _ _
    refine mw_callS (pc' := 51) (b' := (0, 0)) (b1 := b) (av := [.inr (some (y2 + 5)), .inl x4]) (rest := [.inl (mI h 41 4), .inr (some 41)]) dX8_countStates_48 rfl lkX8_58 rfl rfl (Nat.le_of_ble_eq_true rfl) ⟨Nat.le_of_eq (Nat.zero_add _), Nat.le_of_eq (Nat.zero_add _)⟩ ?_
    refine mC_mono (fun r h5 hr => ?_) K
    obtain ⟨x6, rfl, hS, ty2, K⟩ := hr
    show mW _ _ _ _ _ _ [.inl x6, .inl (mI h 41 4), .inr (some 41)] _ _
    refine mw_iadd (pc' := 52) dX8_countStates_51 rfl ?_
    refine mw_putIK (pc' := 55) dX8_countStates_52 rfl flX8_31 rfl (Or.inl rfl) ⟨rfl, rfl⟩ (skT_41 hS) hS (fun h7 eh7 hS => ?_)
    replace K := K h7 eh7
    have ty2 : mT h7 y2 = 2 := by rw [eh7]; exact ty2
    refine mw_iinc (pc' := 58) (v := v3 + 1) dX8_countStates_55 rfl (by decide) rfl rfl ?_
    show mW _ _ _ _ _ [some (.inr (some 41)), some (.inr (some 33)), some (.inr (some 28)), some (.inl (v3 + 1)), some (.inr (some y2))] _ _ _
    refine mw_goto (tgt := 7) dX8_countStates_58 (by decide) ?_
    refine mw_weak (ls' := [some (.inr (some 41)), some (.inr (some 33)), some (.inr (some 28)), some (.inl (v3 + 1)), none]) ?_ ?_
    · intro i v hv; match i, hv with
      | 0, hv => exact hv
      | 1, hv => exact hv
      | 2, hv => exact hv
      | 3, hv => exact hv
      | 4, hv => cases hv
      | n + 5, hv => cases hv
    exact K

set_option maxRecDepth 100000 in
set_option maxHeartbeats 4000000 in
theorem qX8_weigh {G : mG} {d : Nat} {b : Nat × Nat} {h : mH} {Q : Option mV → mH → Prop} (v3 : Int32) (hS : mSk h)
    (K : ((¬ (mI h 41 12) = v3 → ∀ h1, h1 = mSI h 41 12 v3 → mC G kX8_countStates (d + 3) (0, 0) [.inr (some 41), .inr (some 33), .inr (some 28)] h1 (fun r h2 => r = none ∧ mSk h2 ∧ ∀ h3, h3 = mSI h2 41 6 1000000 → mW G kX8_weigh (d + 4) b 29 [some (.inr (some 41)), some (.inr (some 33)), some (.inr (some 28)), none, some (.inl 0), none, none] [] h3 Q)) ∧ ((mI h 41 12) = v3 → Q none h))) : mC G kX8_weigh (d + 4) b [.inr (some 41), .inr (some 33), .inr (some 28), .inl v3] h Q := by
  refine mC_in rfl (Nat.le_of_ble_eq_true rfl) ?_
  show mW _ _ _ _ _ [some (.inr (some 41)), some (.inr (some 33)), some (.inr (some 28)), some (.inl v3), none, none, none] _ _ _
  refine mw_aload_n (pc' := 1) dX8_weigh_0 rfl rfl ?_
  refine mw_getI (pc' := 4) dX8_weigh_1 rfl flX8_62 rfl (skT_41 hS) ?_
  refine mw_iload_n (pc' := 5) dX8_weigh_4 rfl rfl ?_
  refine mw_icmp_ne (pc' := 8) (tgt := 9) dX8_weigh_5 rfl (by decide) (fun c4 => ?_) (fun c4 => ?_)
  · replace K := K.1 c4
    refine mw_aload_n (pc' := 10) dX8_weigh_9 rfl rfl ?_
    refine mw_iload_n (pc' := 11) dX8_weigh_10 rfl rfl ?_
    refine mw_putIK (pc' := 14) dX8_weigh_11 rfl flX8_62 rfl (Or.inl rfl) ⟨rfl, rfl⟩ (skT_41 hS) hS (fun h1 eh1 hS => ?_)
    replace K := K h1 eh1
    refine mw_aload_n (pc' := 15) dX8_weigh_14 rfl rfl ?_
    refine mw_aload_n (pc' := 16) dX8_weigh_15 rfl rfl ?_
    refine mw_aload_n (pc' := 17) dX8_weigh_16 rfl rfl ?_
    refine mw_callV (pc' := 20) (b' := (0, 0)) (b1 := b) (av := [.inr (some 33), .inr (some 28)]) (rest := []) dX8_weigh_17 rfl lkX8_65 rfl rfl (Nat.le_of_ble_eq_true rfl) ⟨Nat.le_of_eq (Nat.zero_add _), Nat.le_of_eq (Nat.zero_add _)⟩ (skT_41 hS) ?_
    refine mC_mono (fun r h2 hr => ?_) K
    obtain ⟨rfl, hS, K⟩ := hr
    show mW _ _ _ _ _ _ [] _ _
    refine mw_aload_n (pc' := 21) dX8_weigh_20 rfl rfl ?_
    refine mw_ldc (pc' := 23) dX8_weigh_21 rfl cnX8_69 ?_
    refine mw_putIK (pc' := 26) dX8_weigh_23 rfl flX8_70 rfl (Or.inl rfl) ⟨rfl, rfl⟩ (skT_41 hS) hS (fun h3 eh3 hS => ?_)
    replace K := K h3 eh3
    refine mw_iconst (pc' := 27) (v := 0) dX8_weigh_26 rfl (by decide) ?_
    refine mw_istore (pc' := 29) dX8_weigh_27 rfl (by decide) ?_
    show mW _ _ _ _ _ [some (.inr (some 41)), some (.inr (some 33)), some (.inr (some 28)), some (.inl v3), some (.inl 0), none, none] _ _ _
    refine mw_weak (ls' := [some (.inr (some 41)), some (.inr (some 33)), some (.inr (some 28)), none, some (.inl 0), none, none]) ?_ ?_
    · intro i v hv; match i, hv with
      | 0, hv => exact hv
      | 1, hv => exact hv
      | 2, hv => exact hv
      | 3, hv => cases hv
      | 4, hv => exact hv
      | 5, hv => cases hv
      | 6, hv => cases hv
      | n + 7, hv => cases hv
    exact K
  · replace K := K.2 c4
    exact mw_ret dX8_weigh_8 rfl K

set_option maxRecDepth 100000 in
set_option maxHeartbeats 4000000 in
theorem qX8_weigh_29 {G : mG} {d : Nat} {b : Nat × Nat} {h : mH} {Q : Option mV → mH → Prop} (v4 : Int32) (hS : mSk h)
    (K : ((6 ≤ v4 → Q none h) ∧ (¬ (6 ≤ v4) → mC G kX8_isTold (d + 3) (0, 0) [.inr (some 41), .inl v4] h (fun r h1 => ∃ x2, r = some (.inl x2) ∧ mSk h1 ∧ ((x2 = 0 → mW G kX8_weigh (d + 4) b 29 [some (.inr (some 41)), some (.inr (some 33)), some (.inr (some 28)), none, some (.inl (v4 + 1)), none, none] [] h1 Q) ∧ (¬ x2 = 0 → mC G kJ7_fill_53178 (d + 3) (0, 0) [.inr (some 45), .inl 0] h1 (fun r h3 => r = none ∧ mSk h3 ∧ mW G kX8_weigh (d + 4) b 56 [some (.inr (some 41)), some (.inr (some 33)), some (.inr (some 28)), none, some (.inl v4), some (.inl 0), none] [] h3 Q))))))) : mW G kX8_weigh (d + 4) b 29 [some (.inr (some 41)), some (.inr (some 33)), some (.inr (some 28)), none, some (.inl v4), none, none] [] h Q := by
  refine mw_iload (pc' := 31) dX8_weigh_29 rfl rfl ?_
  refine mw_bipush (pc' := 33) (v := 6) dX8_weigh_31 rfl (by decide) ?_
  refine mw_icmp_ge (pc' := 36) (tgt := 115) dX8_weigh_33 rfl (by decide) (fun c5 => ?_) (fun c5 => ?_)
  · replace K := K.1 c5
    exact mw_ret dX8_weigh_115 rfl K
  · replace K := K.2 c5
    refine mw_aload_n (pc' := 37) dX8_weigh_36 rfl rfl ?_
    refine mw_iload (pc' := 39) dX8_weigh_37 rfl rfl ?_
    refine mw_callV (pc' := 42) (b' := (0, 0)) (b1 := b) (av := [.inl v4]) (rest := []) dX8_weigh_39 rfl lkX8_73 rfl rfl (Nat.le_of_ble_eq_true rfl) ⟨Nat.le_of_eq (Nat.zero_add _), Nat.le_of_eq (Nat.zero_add _)⟩ (skT_41 hS) ?_
    refine mC_mono (fun r h1 hr => ?_) K
    obtain ⟨x2, rfl, hS, K⟩ := hr
    show mW _ _ _ _ _ _ [.inl x2] _ _
    refine mw_if_eq (pc' := 45) (tgt := 109) dX8_weigh_42 rfl (by decide) (fun c4 => ?_) (fun c4 => ?_)
    · replace K := K.1 c4
      refine mw_iinc (pc' := 112) (v := v4 + 1) dX8_weigh_109 rfl (by decide) rfl rfl ?_
      show mW _ _ _ _ _ [some (.inr (some 41)), some (.inr (some 33)), some (.inr (some 28)), none, some (.inl (v4 + 1)), none, none] _ _ _
      refine mw_goto (tgt := 29) dX8_weigh_112 (by decide) ?_
      exact K
    · replace K := K.2 c4
      refine mw_aload_n (pc' := 46) dX8_weigh_45 rfl rfl ?_
      refine mw_getR (pc' := 49) dX8_weigh_46 rfl flX8_21 rfl (skT_41 hS) ?_
      rw [skR_41_10 hS]
      refine mw_iconst (pc' := 50) (v := 0) dX8_weigh_49 rfl (by decide) ?_
      refine mw_callS (pc' := 53) (b' := (0, 0)) (b1 := b) (av := [.inr (some 45), .inl 0]) (rest := []) dX8_weigh_50 rfl lkX8_77 rfl rfl (Nat.le_of_ble_eq_true rfl) ⟨Nat.le_of_eq (Nat.zero_add _), Nat.le_of_eq (Nat.zero_add _)⟩ ?_
      refine mC_mono (fun r h3 hr => ?_) K
      obtain ⟨rfl, hS, K⟩ := hr
      show mW _ _ _ _ _ _ [] _ _
      refine mw_iconst (pc' := 54) (v := 0) dX8_weigh_53 rfl (by decide) ?_
      refine mw_istore (pc' := 56) dX8_weigh_54 rfl (by decide) ?_
      show mW _ _ _ _ _ [some (.inr (some 41)), some (.inr (some 33)), some (.inr (some 28)), none, some (.inl v4), some (.inl 0), none] _ _ _
      exact K

set_option maxRecDepth 100000 in
set_option maxHeartbeats 4000000 in
theorem qX8_weigh_56 {G : mG} {d : Nat} {b : Nat × Nat} {h : mH} {Q : Option mV → mH → Prop} (v4 : Int32) (v5 : Int32) (hS : mSk h)
    (K : (((mI h 33 1) ≤ v5 → mC G kX8_takeIfBetter (d + 3) (0, 0) [.inr (some 41), .inl v4] h (fun r h1 => r = none ∧ mSk h1 ∧ mW G kX8_weigh (d + 4) b 29 [some (.inr (some 41)), some (.inr (some 33)), some (.inr (some 28)), none, some (.inl (v4 + 1)), none, none] [] h1 Q)) ∧ (¬ ((mI h 33 1) ≤ v5) → vp_in v5 8 ∧ ∃ y3, mR h 34 v5.toNatClampNeg = some y3 ∧ mT h y3 = 2 ∧ mC G kX1_rowsAt (d + 3) (0, 0) [.inr (some y3), .inl ((mI h 28 1) - 1), .inl (mI h 28 2)] h (fun r h4 => ∃ x5, r = some (.inl x5) ∧ mSk h4 ∧ mT h4 y3 = 2 ∧ mC G kX8_tally (d + 3) (0, 0) [.inr (some 41), .inr (some y3), .inl x5, .inl v4] h4 (fun r h6 => r = none ∧ mSk h6 ∧ mT h6 y3 = 2 ∧ mW G kX8_weigh (d + 4) b 56 [some (.inr (some 41)), some (.inr (some 33)), some (.inr (some 28)), none, some (.inl v4), some (.inl (v5 + 1)), none] [] h6 Q))))) : mW G kX8_weigh (d + 4) b 56 [some (.inr (some 41)), some (.inr (some 33)), some (.inr (some 28)), none, some (.inl v4), some (.inl v5), none] [] h Q := by
  refine mw_iload (pc' := 58) dX8_weigh_56 rfl rfl ?_
  refine mw_aload_n (pc' := 59) dX8_weigh_58 rfl rfl ?_
  refine mw_getI (pc' := 62) dX8_weigh_59 rfl flX8_34 rfl (skT_33 hS) ?_
  refine mw_icmp_ge (pc' := 65) (tgt := 103) dX8_weigh_62 rfl (by decide) (fun c7 => ?_) (fun c7 => ?_)
  · replace K := K.1 c7
    refine mw_aload_n (pc' := 104) dX8_weigh_103 rfl rfl ?_
    refine mw_iload (pc' := 106) dX8_weigh_104 rfl rfl ?_
    refine mw_callV (pc' := 109) (b' := (0, 0)) (b1 := b) (av := [.inl v4]) (rest := []) dX8_weigh_106 rfl lkX8_87 rfl rfl (Nat.le_of_ble_eq_true rfl) ⟨Nat.le_of_eq (Nat.zero_add _), Nat.le_of_eq (Nat.zero_add _)⟩ (skT_41 hS) ?_
    refine mC_mono (fun r h1 hr => ?_) K
    obtain ⟨rfl, hS, K⟩ := hr
    show mW _ _ _ _ _ _ [] _ _
    refine mw_iinc (pc' := 112) (v := v4 + 1) dX8_weigh_109 rfl (by decide) rfl rfl ?_
    show mW _ _ _ _ _ [some (.inr (some 41)), some (.inr (some 33)), some (.inr (some 28)), none, some (.inl (v4 + 1)), some (.inl v5), none] _ _ _
    refine mw_goto (tgt := 29) dX8_weigh_112 (by decide) ?_
    refine mw_weak (ls' := [some (.inr (some 41)), some (.inr (some 33)), some (.inr (some 28)), none, some (.inl (v4 + 1)), none, none]) ?_ ?_
    · intro i v hv; match i, hv with
      | 0, hv => exact hv
      | 1, hv => exact hv
      | 2, hv => exact hv
      | 3, hv => cases hv
      | 4, hv => exact hv
      | 5, hv => cases hv
      | 6, hv => cases hv
      | n + 7, hv => cases hv
    exact K
  · replace K := K.2 c7
    refine mw_aload_n (pc' := 66) dX8_weigh_65 rfl rfl ?_
    refine mw_getR (pc' := 69) dX8_weigh_66 rfl flX8_39 rfl (skT_33 hS) ?_
    rw [skR_33_0 hS]
    refine mw_iload (pc' := 71) dX8_weigh_69 rfl rfl ?_
    obtain ⟨o2, K⟩ := K
    refine mw_aaldL (pc' := 72) dX8_weigh_71 rfl (t := 0) (by decide) (skT_34 hS) (skL_34 hS) o2 ?_
    refine mw_astore (pc' := 74) dX8_weigh_72 rfl (by decide) ?_
    show mW _ _ _ _ _ [some (.inr (some 41)), some (.inr (some 33)), some (.inr (some 28)), none, some (.inl v4), some (.inl v5), some (.inr (mR h 34 v5.toNatClampNeg))] _ _ _
    refine mw_aload_n (pc' := 75) dX8_weigh_74 rfl rfl ?_
    refine mw_aload (pc' := 77) dX8_weigh_75 rfl rfl ?_
    refine mw_aload (pc' := 79) dX8_weigh_77 rfl rfl ?_
    refine mw_aload_n (pc' := 80) dX8_weigh_79 rfl rfl ?_
    refine mw_getI (pc' := 83) dX8_weigh_80 rfl flX8_48 rfl (skT_28 hS) ?_
    refine mw_iconst (pc' := 84) (v := 1) dX8_weigh_83 rfl (by decide) ?_
    refine mw_isub (pc' := 85) dX8_weigh_84 rfl ?_
    refine mw_aload_n (pc' := 86) dX8_weigh_85 rfl rfl ?_
    refine mw_getI (pc' := 89) dX8_weigh_86 rfl flX8_51 rfl (skT_28 hS) ?_
    obtain ⟨y3, ey3, ty3, K⟩ := K
    rw [ey3]
    refine mw_callV (pc' := 92) (b' := (0, 0)) (b1 := b) (av := [.inl ((mI h 28 1) - 1), .inl (mI h 28 2)]) (rest := [.inr (some y3), .inr (some 41)]) dX8_weigh_89 rfl lkX8_54 rfl rfl (Nat.le_of_ble_eq_true rfl) ⟨Nat.le_of_eq (Nat.zero_add _), Nat.le_of_eq (Nat.zero_add _)⟩ (ty3) ?_
    refine mC_mono (fun r h4 hr => ?_) K
    obtain ⟨x5, rfl, hS, ty3, K⟩ := hr
    show mW _ _ _ _ _ _ [.inl x5, .inr (some y3), .inr (some 41)] _ _
    refine mw_iload (pc' := 94) dX8_weigh_92 rfl rfl ?_
    refine mw_callV (pc' := 97) (b' := (0, 0)) (b1 := b) (av := [.inr (some y3), .inl x5, .inl v4]) (rest := []) dX8_weigh_94 rfl lkX8_83 rfl rfl (Nat.le_of_ble_eq_true rfl) ⟨Nat.le_of_eq (Nat.zero_add _), Nat.le_of_eq (Nat.zero_add _)⟩ (skT_41 hS) ?_
    refine mC_mono (fun r h6 hr => ?_) K
    obtain ⟨rfl, hS, ty3, K⟩ := hr
    show mW _ _ _ _ _ _ [] _ _
    refine mw_iinc (pc' := 100) (v := v5 + 1) dX8_weigh_97 rfl (by decide) rfl rfl ?_
    show mW _ _ _ _ _ [some (.inr (some 41)), some (.inr (some 33)), some (.inr (some 28)), none, some (.inl v4), some (.inl (v5 + 1)), some (.inr (some y3))] _ _ _
    refine mw_goto (tgt := 56) dX8_weigh_100 (by decide) ?_
    refine mw_weak (ls' := [some (.inr (some 41)), some (.inr (some 33)), some (.inr (some 28)), none, some (.inl v4), some (.inl (v5 + 1)), none]) ?_ ?_
    · intro i v hv; match i, hv with
      | 0, hv => exact hv
      | 1, hv => exact hv
      | 2, hv => exact hv
      | 3, hv => cases hv
      | 4, hv => exact hv
      | 5, hv => exact hv
      | 6, hv => cases hv
      | n + 7, hv => cases hv
    exact K

set_option maxRecDepth 100000 in
set_option maxHeartbeats 4000000 in
theorem qX8_tally {G : mG} {d : Nat} {b : Nat × Nat} {h : mH} {Q : Option mV → mH → Prop} (a1 : Nat) (v2 : Int32) (v3 : Int32) (ta1 : mT h a1 = 2) (hS : mSk h)
    (K : vp_in v3 6 ∧ mC G kX1_sweep (d + 2) (0, 0) [.inr (some a1), .inl (mI h 44 v3.toNatClampNeg)] h (fun r h2 => r = none ∧ mSk h2 ∧ mT h2 a1 = 2 ∧ vp_in v3 6 ∧ vp_in v3 6 ∧ mW G kX8_tally (d + 3) b 39 [some (.inr (some 41)), some (.inr (some a1)), some (.inl v2), some (.inl v3), some (.inl (f_min 31 (31 - (mI h2 43 v3.toNatClampNeg)))), some (.inl (f_max 0 (-(mI h2 43 v3.toNatClampNeg)))), none, none, none, none, none] [] h2 Q)) : mC G kX8_tally (d + 3) b [.inr (some 41), .inr (some a1), .inl v2, .inl v3] h Q := by
  refine mC_in rfl (Nat.le_of_ble_eq_true rfl) ?_
  show mW _ _ _ _ _ [some (.inr (some 41)), some (.inr (some a1)), some (.inl v2), some (.inl v3), none, none, none, none, none, none, none] _ _ _
  refine mw_aload_n (pc' := 1) dX8_tally_0 rfl rfl ?_
  refine mw_aload_n (pc' := 2) dX8_tally_1 rfl rfl ?_
  refine mw_getR (pc' := 5) dX8_tally_2 rfl flX8_18 rfl (skT_41 hS) ?_
  rw [skR_41_2 hS]
  refine mw_iload_n (pc' := 6) dX8_tally_5 rfl rfl ?_
  obtain ⟨o1, K⟩ := K
  refine mw_ialdL (pc' := 7) dX8_tally_6 rfl (skT_44 hS) (skL_44 hS) o1 ?_
  refine mw_callV (pc' := 10) (b' := (0, 0)) (b1 := b) (av := [.inl (mI h 44 v3.toNatClampNeg)]) (rest := []) dX8_tally_7 rfl lkX8_91 rfl rfl (Nat.le_of_ble_eq_true rfl) ⟨Nat.le_of_eq (Nat.zero_add _), Nat.le_of_eq (Nat.zero_add _)⟩ (ta1) ?_
  refine mC_mono (fun r h2 hr => ?_) K
  obtain ⟨rfl, hS, ta1, K⟩ := hr
  show mW _ _ _ _ _ _ [] _ _
  refine mw_bipush (pc' := 12) (v := 31) dX8_tally_10 rfl (by decide) ?_
  refine mw_bipush (pc' := 14) (v := 31) dX8_tally_12 rfl (by decide) ?_
  refine mw_aload_n (pc' := 15) dX8_tally_14 rfl rfl ?_
  refine mw_getR (pc' := 18) dX8_tally_15 rfl flX8_15 rfl (skT_41 hS) ?_
  rw [skR_41_1 hS]
  refine mw_iload_n (pc' := 19) dX8_tally_18 rfl rfl ?_
  obtain ⟨o3, K⟩ := K
  refine mw_ialdL (pc' := 20) dX8_tally_19 rfl (skT_43 hS) (skL_43 hS) o3 ?_
  refine mw_isub (pc' := 21) dX8_tally_20 rfl ?_
  refine mw_mmin (pc' := 24) dX8_tally_21 rfl lkX8_94 (Nat.le_of_ble_eq_true rfl) ?_
  refine mw_istore (pc' := 26) dX8_tally_24 rfl (by decide) ?_
  show mW _ _ _ _ _ [some (.inr (some 41)), some (.inr (some a1)), some (.inl v2), some (.inl v3), some (.inl (f_min 31 (31 - (mI h2 43 v3.toNatClampNeg)))), none, none, none, none, none, none] _ _ _
  refine mw_iconst (pc' := 27) (v := 0) dX8_tally_26 rfl (by decide) ?_
  refine mw_aload_n (pc' := 28) dX8_tally_27 rfl rfl ?_
  refine mw_getR (pc' := 31) dX8_tally_28 rfl flX8_15 rfl (skT_41 hS) ?_
  rw [skR_41_1 hS]
  refine mw_iload_n (pc' := 32) dX8_tally_31 rfl rfl ?_
  obtain ⟨o4, K⟩ := K
  refine mw_ialdL (pc' := 33) dX8_tally_32 rfl (skT_43 hS) (skL_43 hS) o4 ?_
  refine mw_ineg (pc' := 34) dX8_tally_33 rfl ?_
  refine mw_mmax (pc' := 37) dX8_tally_34 rfl lkX8_99 (Nat.le_of_ble_eq_true rfl) ?_
  refine mw_istore (pc' := 39) dX8_tally_37 rfl (by decide) ?_
  show mW _ _ _ _ _ [some (.inr (some 41)), some (.inr (some a1)), some (.inl v2), some (.inl v3), some (.inl (f_min 31 (31 - (mI h2 43 v3.toNatClampNeg)))), some (.inl (f_max 0 (-(mI h2 43 v3.toNatClampNeg)))), none, none, none, none, none] _ _ _
  exact K

set_option maxRecDepth 100000 in
set_option maxHeartbeats 4000000 in
theorem qX8_tally_39 {G : mG} {d : Nat} {b : Nat × Nat} {h : mH} {Q : Option mV → mH → Prop} (a1 : Nat) (v2 : Int32) (v3 : Int32) (v4 : Int32) (v5 : Int32) (ta1 : mT h a1 = 2) (hS : mSk h)
    (K : ((v4 < v5 → Q none h) ∧ (¬ (v4 < v5) → vp_in (v2 + v5) 1536 ∧ vp_in v3 6 ∧ vp_in v3 6 ∧ vp_in (v5 + (mI h 43 v3.toNatClampNeg)) 32 ∧ vp_in v3 6 ∧ vp_in v3 6 ∧ mW G kX8_tally (d + 3) b 111 [some (.inr (some 41)), some (.inr (some a1)), some (.inl v2), some (.inl v3), some (.inl v4), some (.inl v5), some (.inl ((f_X11_moved (mI h (a1 + 5) (v2 + v5).toNatClampNeg) (mI h 42 v3.toNatClampNeg)) &&& (m_not (mI h (a1 + 1) (v5 + (mI h 43 v3.toNatClampNeg)).toNatClampNeg)))), some (.inl (((mI h 44 v3.toNatClampNeg) * 1024) + ((v5 + (mI h 43 v3.toNatClampNeg)) * 32))), some (.inl 0), none, none] [] h Q))) : mW G kX8_tally (d + 3) b 39 [some (.inr (some 41)), some (.inr (some a1)), some (.inl v2), some (.inl v3), some (.inl v4), some (.inl v5), none, none, none, none, none] [] h Q := by
  refine mw_iload (pc' := 41) dX8_tally_39 rfl rfl ?_
  refine mw_iload (pc' := 43) dX8_tally_41 rfl rfl ?_
  refine mw_icmp_gt (pc' := 46) (tgt := 200) dX8_tally_43 rfl (by decide) (fun c7 => ?_) (fun c7 => ?_)
  · replace K := K.1 c7
    exact mw_ret dX8_tally_200 rfl K
  · replace K := K.2 c7
    refine mw_aload_n (pc' := 47) dX8_tally_46 rfl rfl ?_
    refine mw_getR (pc' := 50) dX8_tally_47 rfl flX8_43 rfl (ta1) ?_
    rw [skBR_1_9 hS ta1]
    refine mw_iload_n (pc' := 51) dX8_tally_50 rfl rfl ?_
    refine mw_iload (pc' := 53) dX8_tally_51 rfl rfl ?_
    refine mw_iadd (pc' := 54) dX8_tally_53 rfl ?_
    obtain ⟨o1, K⟩ := K
    refine mw_ialdL (pc' := 55) dX8_tally_54 rfl (skBT_1_5 hS ta1) (skBL_1_5 hS ta1) o1 ?_
    refine mw_aload_n (pc' := 56) dX8_tally_55 rfl rfl ?_
    refine mw_getR (pc' := 59) dX8_tally_56 rfl flX8_9 rfl (skT_41 hS) ?_
    rw [skR_41_0 hS]
    refine mw_iload_n (pc' := 60) dX8_tally_59 rfl rfl ?_
    obtain ⟨o2, K⟩ := K
    refine mw_ialdL (pc' := 61) dX8_tally_60 rfl (skT_42 hS) (skL_42 hS) o2 ?_
    refine mw_callS (pc' := 64) (b' := (0, 0)) (b1 := b) (av := [.inl (mI h (a1 + 5) (v2 + v5).toNatClampNeg), .inl (mI h 42 v3.toNatClampNeg)]) (rest := []) dX8_tally_61 rfl lkX8_102 rfl rfl (Nat.le_of_ble_eq_true rfl) ⟨Nat.le_of_eq (Nat.zero_add _), Nat.le_of_eq (Nat.zero_add _)⟩ ?_
    refine pX11_moved ?_
    refine mw_aload_n (pc' := 65) dX8_tally_64 rfl rfl ?_
    refine mw_getR (pc' := 68) dX8_tally_65 rfl flX8_105 rfl (ta1) ?_
    rw [skBR_1_5 hS ta1]
    refine mw_iload (pc' := 70) dX8_tally_68 rfl rfl ?_
    refine mw_aload_n (pc' := 71) dX8_tally_70 rfl rfl ?_
    refine mw_getR (pc' := 74) dX8_tally_71 rfl flX8_15 rfl (skT_41 hS) ?_
    rw [skR_41_1 hS]
    refine mw_iload_n (pc' := 75) dX8_tally_74 rfl rfl ?_
    obtain ⟨o3, K⟩ := K
    refine mw_ialdL (pc' := 76) dX8_tally_75 rfl (skT_43 hS) (skL_43 hS) o3 ?_
    refine mw_iadd (pc' := 77) dX8_tally_76 rfl ?_
    obtain ⟨o4, K⟩ := K
    refine mw_ialdL (pc' := 78) dX8_tally_77 rfl (skBT_1_1 hS ta1) (skBL_1_1 hS ta1) o4 ?_
    refine mw_iconst (pc' := 79) (v := (-1)) dX8_tally_78 rfl (by decide) ?_
    refine mw_ixorM (pc' := 80) dX8_tally_79 rfl ?_
    refine mw_iand (pc' := 81) dX8_tally_80 rfl ?_
    refine mw_istore (pc' := 83) dX8_tally_81 rfl (by decide) ?_
    show mW _ _ _ _ _ [some (.inr (some 41)), some (.inr (some a1)), some (.inl v2), some (.inl v3), some (.inl v4), some (.inl v5), some (.inl ((f_X11_moved (mI h (a1 + 5) (v2 + v5).toNatClampNeg) (mI h 42 v3.toNatClampNeg)) &&& (m_not (mI h (a1 + 1) (v5 + (mI h 43 v3.toNatClampNeg)).toNatClampNeg)))), none, none, none, none] _ _ _
    refine mw_aload_n (pc' := 84) dX8_tally_83 rfl rfl ?_
    refine mw_getR (pc' := 87) dX8_tally_84 rfl flX8_18 rfl (skT_41 hS) ?_
    rw [skR_41_2 hS]
    refine mw_iload_n (pc' := 88) dX8_tally_87 rfl rfl ?_
    obtain ⟨o5, K⟩ := K
    refine mw_ialdL (pc' := 89) dX8_tally_88 rfl (skT_44 hS) (skL_44 hS) o5 ?_
    refine mw_sipush (pc' := 92) (v := 1024) dX8_tally_89 rfl (by decide) ?_
    refine mw_imul (pc' := 93) dX8_tally_92 rfl ?_
    refine mw_iload (pc' := 95) dX8_tally_93 rfl rfl ?_
    refine mw_aload_n (pc' := 96) dX8_tally_95 rfl rfl ?_
    refine mw_getR (pc' := 99) dX8_tally_96 rfl flX8_15 rfl (skT_41 hS) ?_
    rw [skR_41_1 hS]
    refine mw_iload_n (pc' := 100) dX8_tally_99 rfl rfl ?_
    obtain ⟨o6, K⟩ := K
    refine mw_ialdL (pc' := 101) dX8_tally_100 rfl (skT_43 hS) (skL_43 hS) o6 ?_
    refine mw_iadd (pc' := 102) dX8_tally_101 rfl ?_
    refine mw_bipush (pc' := 104) (v := 32) dX8_tally_102 rfl (by decide) ?_
    refine mw_imul (pc' := 105) dX8_tally_104 rfl ?_
    refine mw_iadd (pc' := 106) dX8_tally_105 rfl ?_
    refine mw_istore (pc' := 108) dX8_tally_106 rfl (by decide) ?_
    show mW _ _ _ _ _ [some (.inr (some 41)), some (.inr (some a1)), some (.inl v2), some (.inl v3), some (.inl v4), some (.inl v5), some (.inl ((f_X11_moved (mI h (a1 + 5) (v2 + v5).toNatClampNeg) (mI h 42 v3.toNatClampNeg)) &&& (m_not (mI h (a1 + 1) (v5 + (mI h 43 v3.toNatClampNeg)).toNatClampNeg)))), some (.inl (((mI h 44 v3.toNatClampNeg) * 1024) + ((v5 + (mI h 43 v3.toNatClampNeg)) * 32))), none, none, none] _ _ _
    refine mw_iconst (pc' := 109) (v := 0) dX8_tally_108 rfl (by decide) ?_
    refine mw_istore (pc' := 111) dX8_tally_109 rfl (by decide) ?_
    show mW _ _ _ _ _ [some (.inr (some 41)), some (.inr (some a1)), some (.inl v2), some (.inl v3), some (.inl v4), some (.inl v5), some (.inl ((f_X11_moved (mI h (a1 + 5) (v2 + v5).toNatClampNeg) (mI h 42 v3.toNatClampNeg)) &&& (m_not (mI h (a1 + 1) (v5 + (mI h 43 v3.toNatClampNeg)).toNatClampNeg)))), some (.inl (((mI h 44 v3.toNatClampNeg) * 1024) + ((v5 + (mI h 43 v3.toNatClampNeg)) * 32))), some (.inl 0), none, none] _ _ _
    exact K

set_option maxRecDepth 100000 in
set_option maxHeartbeats 4000000 in
theorem qX8_tally_111 {G : mG} {d : Nat} {b : Nat × Nat} {h : mH} {Q : Option mV → mH → Prop} (a1 : Nat) (v2 : Int32) (v3 : Int32) (v4 : Int32) (v5 : Int32) (v6 : Int32) (v7 : Int32) (v8 : Int32) (ta1 : mT h a1 = 2) (hS : mSk h)
    (K : ((v6 = 0 → mW G kX8_tally (d + 3) b 39 [some (.inr (some 41)), some (.inr (some a1)), some (.inl v2), some (.inl v3), some (.inl v4), some (.inl (v5 + 1)), none, none, none, none, none] [] h Q) ∧ (¬ v6 = 0 → ((32 ≤ v8 → mW G kX8_tally (d + 3) b 39 [some (.inr (some 41)), some (.inr (some a1)), some (.inl v2), some (.inl v3), some (.inl v4), some (.inl (v5 + 1)), none, none, none, none, none] [] h Q) ∧ (¬ (32 ≤ v8) → vp_in (v7 + (f_X11_lowestBit v6)) 4096 ∧ (((f_X11_echoSteps (mI h (a1 + 3) (v7 + (f_X11_lowestBit v6)).toNatClampNeg)) ≤ 0 → (((f_X11_maybeSilent (mI h (a1 + 3) (v7 + (f_X11_lowestBit v6)).toNatClampNeg)) = 0 → mW G kX8_tally (d + 3) b 111 [some (.inr (some 41)), some (.inr (some a1)), some (.inl v2), some (.inl v3), some (.inl v4), some (.inl v5), some (.inl (v6 &&& (v6 - 1))), some (.inl v7), some (.inl (v8 + 1)), none, none] [] h Q) ∧ (¬ (f_X11_maybeSilent (mI h (a1 + 3) (v7 + (f_X11_lowestBit v6)).toNatClampNeg)) = 0 → vp_in 0 32 ∧ vp_in 0 32 ∧ ∀ h4, h4 = mSI h 45 0 ((mI h 45 0) + 1) → mW G kX8_tally (d + 3) b 111 [some (.inr (some 41)), some (.inr (some a1)), some (.inl v2), some (.inl v3), some (.inl v4), some (.inl v5), some (.inl (v6 &&& (v6 - 1))), some (.inl v7), some (.inl (v8 + 1)), none, none] [] h4 Q))) ∧ (¬ ((f_X11_echoSteps (mI h (a1 + 3) (v7 + (f_X11_lowestBit v6)).toNatClampNeg)) ≤ 0) → vp_in (f_X11_echoSteps (mI h (a1 + 3) (v7 + (f_X11_lowestBit v6)).toNatClampNeg)) 32 ∧ vp_in (f_X11_echoSteps (mI h (a1 + 3) (v7 + (f_X11_lowestBit v6)).toNatClampNeg)) 32 ∧ ∀ h8, h8 = mSI h 45 (f_X11_echoSteps (mI h (a1 + 3) (v7 + (f_X11_lowestBit v6)).toNatClampNeg)).toNatClampNeg ((mI h 45 (f_X11_echoSteps (mI h (a1 + 3) (v7 + (f_X11_lowestBit v6)).toNatClampNeg)).toNatClampNeg) + 1) → (((f_X11_maybeSilent (mI h (a1 + 3) (v7 + (f_X11_lowestBit v6)).toNatClampNeg)) = 0 → mW G kX8_tally (d + 3) b 111 [some (.inr (some 41)), some (.inr (some a1)), some (.inl v2), some (.inl v3), some (.inl v4), some (.inl v5), some (.inl (v6 &&& (v6 - 1))), some (.inl v7), some (.inl (v8 + 1)), none, none] [] h8 Q) ∧ (¬ (f_X11_maybeSilent (mI h (a1 + 3) (v7 + (f_X11_lowestBit v6)).toNatClampNeg)) = 0 → vp_in 0 32 ∧ vp_in 0 32 ∧ ∀ h11, h11 = mSI h8 45 0 ((mI h8 45 0) + 1) → mW G kX8_tally (d + 3) b 111 [some (.inr (some 41)), some (.inr (some a1)), some (.inl v2), some (.inl v3), some (.inl v4), some (.inl v5), some (.inl (v6 &&& (v6 - 1))), some (.inl v7), some (.inl (v8 + 1)), none, none] [] h11 Q))))))))) : mW G kX8_tally (d + 3) b 111 [some (.inr (some 41)), some (.inr (some a1)), some (.inl v2), some (.inl v3), some (.inl v4), some (.inl v5), some (.inl v6), some (.inl v7), some (.inl v8), none, none] [] h Q := by
  refine mw_iload (pc' := 113) dX8_tally_111 rfl rfl ?_
  refine mw_if_eq (pc' := 116) (tgt := 194) dX8_tally_113 rfl (by decide) (fun c15 => ?_) (fun c15 => ?_)
  · replace K := K.1 c15
    refine mw_iinc (pc' := 197) (v := v5 + 1) dX8_tally_194 rfl (by decide) rfl rfl ?_
    show mW _ _ _ _ _ [some (.inr (some 41)), some (.inr (some a1)), some (.inl v2), some (.inl v3), some (.inl v4), some (.inl (v5 + 1)), some (.inl v6), some (.inl v7), some (.inl v8), none, none] _ _ _
    refine mw_goto (tgt := 39) dX8_tally_197 (by decide) ?_
    refine mw_weak (ls' := [some (.inr (some 41)), some (.inr (some a1)), some (.inl v2), some (.inl v3), some (.inl v4), some (.inl (v5 + 1)), none, none, none, none, none]) ?_ ?_
    · intro i v hv; match i, hv with
      | 0, hv => exact hv
      | 1, hv => exact hv
      | 2, hv => exact hv
      | 3, hv => exact hv
      | 4, hv => exact hv
      | 5, hv => exact hv
      | 6, hv => cases hv
      | 7, hv => cases hv
      | 8, hv => cases hv
      | 9, hv => cases hv
      | 10, hv => cases hv
      | n + 11, hv => cases hv
    exact K
  · replace K := K.2 c15
    refine mw_iload (pc' := 118) dX8_tally_116 rfl rfl ?_
    refine mw_bipush (pc' := 120) (v := 32) dX8_tally_118 rfl (by decide) ?_
    refine mw_icmp_ge (pc' := 123) (tgt := 194) dX8_tally_120 rfl (by decide) (fun c14 => ?_) (fun c14 => ?_)
    · replace K := K.1 c14
      refine mw_iinc (pc' := 197) (v := v5 + 1) dX8_tally_194 rfl (by decide) rfl rfl ?_
      show mW _ _ _ _ _ [some (.inr (some 41)), some (.inr (some a1)), some (.inl v2), some (.inl v3), some (.inl v4), some (.inl (v5 + 1)), some (.inl v6), some (.inl v7), some (.inl v8), none, none] _ _ _
      refine mw_goto (tgt := 39) dX8_tally_197 (by decide) ?_
      refine mw_weak (ls' := [some (.inr (some 41)), some (.inr (some a1)), some (.inl v2), some (.inl v3), some (.inl v4), some (.inl (v5 + 1)), none, none, none, none, none]) ?_ ?_
      · intro i v hv; match i, hv with
        | 0, hv => exact hv
        | 1, hv => exact hv
        | 2, hv => exact hv
        | 3, hv => exact hv
        | 4, hv => exact hv
        | 5, hv => exact hv
        | 6, hv => cases hv
        | 7, hv => cases hv
        | 8, hv => cases hv
        | 9, hv => cases hv
        | 10, hv => cases hv
        | n + 11, hv => cases hv
      exact K
    · replace K := K.2 c14
      refine mw_aload_n (pc' := 124) dX8_tally_123 rfl rfl ?_
      refine mw_getR (pc' := 127) dX8_tally_124 rfl flX8_108 rfl (ta1) ?_
      rw [skBR_1_7 hS ta1]
      refine mw_iload (pc' := 129) dX8_tally_127 rfl rfl ?_
      refine mw_iload (pc' := 131) dX8_tally_129 rfl rfl ?_
      refine mw_callS (pc' := 134) (b' := (0, 0)) (b1 := b) (av := [.inl v6]) (rest := [.inl v7, .inr (some (a1 + 3))]) dX8_tally_131 rfl lkX8_111 rfl rfl (Nat.le_of_ble_eq_true rfl) ⟨Nat.le_of_eq (Nat.zero_add _), Nat.le_of_eq (Nat.zero_add _)⟩ ?_
      refine pX11_lowestBit ?_
      refine mw_iadd (pc' := 135) dX8_tally_134 rfl ?_
      obtain ⟨o1, K⟩ := K
      refine mw_ialdL (pc' := 136) dX8_tally_135 rfl (skBT_1_3 hS ta1) (skBL_1_3 hS ta1) o1 ?_
      refine mw_istore (pc' := 138) dX8_tally_136 rfl (by decide) ?_
      show mW _ _ _ _ _ [some (.inr (some 41)), some (.inr (some a1)), some (.inl v2), some (.inl v3), some (.inl v4), some (.inl v5), some (.inl v6), some (.inl v7), some (.inl v8), some (.inl (mI h (a1 + 3) (v7 + (f_X11_lowestBit v6)).toNatClampNeg)), none] _ _ _
      refine mw_iload (pc' := 140) dX8_tally_138 rfl rfl ?_
      refine mw_iload (pc' := 142) dX8_tally_140 rfl rfl ?_
      refine mw_iconst (pc' := 143) (v := 1) dX8_tally_142 rfl (by decide) ?_
      refine mw_isub (pc' := 144) dX8_tally_143 rfl ?_
      refine mw_iand (pc' := 145) dX8_tally_144 rfl ?_
      refine mw_istore (pc' := 147) dX8_tally_145 rfl (by decide) ?_
      show mW _ _ _ _ _ [some (.inr (some 41)), some (.inr (some a1)), some (.inl v2), some (.inl v3), some (.inl v4), some (.inl v5), some (.inl (v6 &&& (v6 - 1))), some (.inl v7), some (.inl v8), some (.inl (mI h (a1 + 3) (v7 + (f_X11_lowestBit v6)).toNatClampNeg)), none] _ _ _
      refine mw_iload (pc' := 149) dX8_tally_147 rfl rfl ?_
      refine mw_callS (pc' := 152) (b' := (0, 0)) (b1 := b) (av := [.inl (mI h (a1 + 3) (v7 + (f_X11_lowestBit v6)).toNatClampNeg)]) (rest := []) dX8_tally_149 rfl lkX8_115 rfl rfl (Nat.le_of_ble_eq_true rfl) ⟨Nat.le_of_eq (Nat.zero_add _), Nat.le_of_eq (Nat.zero_add _)⟩ ?_
      refine pX11_echoSteps ?_
      refine mw_istore (pc' := 154) dX8_tally_152 rfl (by decide) ?_
      show mW _ _ _ _ _ [some (.inr (some 41)), some (.inr (some a1)), some (.inl v2), some (.inl v3), some (.inl v4), some (.inl v5), some (.inl (v6 &&& (v6 - 1))), some (.inl v7), some (.inl v8), some (.inl (mI h (a1 + 3) (v7 + (f_X11_lowestBit v6)).toNatClampNeg)), some (.inl (f_X11_echoSteps (mI h (a1 + 3) (v7 + (f_X11_lowestBit v6)).toNatClampNeg)))] _ _ _
      refine mw_iload (pc' := 156) dX8_tally_154 rfl rfl ?_
      refine mw_if_le (pc' := 159) (tgt := 170) dX8_tally_156 rfl (by decide) (fun c13 => ?_) (fun c13 => ?_)
      · replace K := K.1 c13
        refine mw_iload (pc' := 172) dX8_tally_170 rfl rfl ?_
        refine mw_callS (pc' := 175) (b' := (0, 0)) (b1 := b) (av := [.inl (mI h (a1 + 3) (v7 + (f_X11_lowestBit v6)).toNatClampNeg)]) (rest := []) dX8_tally_172 rfl lkX8_118 rfl rfl (Nat.le_of_ble_eq_true rfl) ⟨Nat.le_of_eq (Nat.zero_add _), Nat.le_of_eq (Nat.zero_add _)⟩ ?_
        refine pX11_maybeSilent ?_
        refine mw_if_eq (pc' := 178) (tgt := 188) dX8_tally_175 rfl (by decide) (fun c5 => ?_) (fun c5 => ?_)
        · replace K := K.1 c5
          refine mw_iinc (pc' := 191) (v := v8 + 1) dX8_tally_188 rfl (by decide) rfl rfl ?_
          show mW _ _ _ _ _ [some (.inr (some 41)), some (.inr (some a1)), some (.inl v2), some (.inl v3), some (.inl v4), some (.inl v5), some (.inl (v6 &&& (v6 - 1))), some (.inl v7), some (.inl (v8 + 1)), some (.inl (mI h (a1 + 3) (v7 + (f_X11_lowestBit v6)).toNatClampNeg)), some (.inl (f_X11_echoSteps (mI h (a1 + 3) (v7 + (f_X11_lowestBit v6)).toNatClampNeg)))] _ _ _
          refine mw_goto (tgt := 111) dX8_tally_191 (by decide) ?_
          refine mw_weak (ls' := [some (.inr (some 41)), some (.inr (some a1)), some (.inl v2), some (.inl v3), some (.inl v4), some (.inl v5), some (.inl (v6 &&& (v6 - 1))), some (.inl v7), some (.inl (v8 + 1)), none, none]) ?_ ?_
          · intro i v hv; match i, hv with
            | 0, hv => exact hv
            | 1, hv => exact hv
            | 2, hv => exact hv
            | 3, hv => exact hv
            | 4, hv => exact hv
            | 5, hv => exact hv
            | 6, hv => exact hv
            | 7, hv => exact hv
            | 8, hv => exact hv
            | 9, hv => cases hv
            | 10, hv => cases hv
            | n + 11, hv => cases hv
          exact K
        · replace K := K.2 c5
          refine mw_aload_n (pc' := 179) dX8_tally_178 rfl rfl ?_
          refine mw_getR (pc' := 182) dX8_tally_179 rfl flX8_21 rfl (skT_41 hS) ?_
          rw [skR_41_10 hS]
          refine mw_iconst (pc' := 183) (v := 0) dX8_tally_182 rfl (by decide) ?_
          refine mw_dup2 (pc' := 184) dX8_tally_183 rfl ?_
          obtain ⟨o2, K⟩ := K
          refine mw_ialdL (pc' := 185) dX8_tally_184 rfl (skT_45 hS) (skL_45 hS) o2 ?_
          refine mw_iconst (pc' := 186) (v := 1) dX8_tally_185 rfl (by decide) ?_
          refine mw_iadd (pc' := 187) dX8_tally_186 rfl ?_
          obtain ⟨o3, K⟩ := K
          refine mw_iastK (pc' := 188) dX8_tally_187 rfl (skT_45 hS) (skL_45 hS) o3 hS (fun h4 eh4 hS => ?_)
          replace K := K h4 eh4
          have ta1 : mT h4 a1 = 2 := by rw [eh4]; exact ta1
          refine mw_iinc (pc' := 191) (v := v8 + 1) dX8_tally_188 rfl (by decide) rfl rfl ?_
          show mW _ _ _ _ _ [some (.inr (some 41)), some (.inr (some a1)), some (.inl v2), some (.inl v3), some (.inl v4), some (.inl v5), some (.inl (v6 &&& (v6 - 1))), some (.inl v7), some (.inl (v8 + 1)), some (.inl (mI h (a1 + 3) (v7 + (f_X11_lowestBit v6)).toNatClampNeg)), some (.inl (f_X11_echoSteps (mI h (a1 + 3) (v7 + (f_X11_lowestBit v6)).toNatClampNeg)))] _ _ _
          refine mw_goto (tgt := 111) dX8_tally_191 (by decide) ?_
          refine mw_weak (ls' := [some (.inr (some 41)), some (.inr (some a1)), some (.inl v2), some (.inl v3), some (.inl v4), some (.inl v5), some (.inl (v6 &&& (v6 - 1))), some (.inl v7), some (.inl (v8 + 1)), none, none]) ?_ ?_
          · intro i v hv; match i, hv with
            | 0, hv => exact hv
            | 1, hv => exact hv
            | 2, hv => exact hv
            | 3, hv => exact hv
            | 4, hv => exact hv
            | 5, hv => exact hv
            | 6, hv => exact hv
            | 7, hv => exact hv
            | 8, hv => exact hv
            | 9, hv => cases hv
            | 10, hv => cases hv
            | n + 11, hv => cases hv
          exact K
      · replace K := K.2 c13
        refine mw_aload_n (pc' := 160) dX8_tally_159 rfl rfl ?_
        refine mw_getR (pc' := 163) dX8_tally_160 rfl flX8_21 rfl (skT_41 hS) ?_
        rw [skR_41_10 hS]
        refine mw_iload (pc' := 165) dX8_tally_163 rfl rfl ?_
        refine mw_dup2 (pc' := 166) dX8_tally_165 rfl ?_
        obtain ⟨o6, K⟩ := K
        refine mw_ialdL (pc' := 167) dX8_tally_166 rfl (skT_45 hS) (skL_45 hS) o6 ?_
        refine mw_iconst (pc' := 168) (v := 1) dX8_tally_167 rfl (by decide) ?_
        refine mw_iadd (pc' := 169) dX8_tally_168 rfl ?_
        obtain ⟨o7, K⟩ := K
        refine mw_iastK (pc' := 170) dX8_tally_169 rfl (skT_45 hS) (skL_45 hS) o7 hS (fun h8 eh8 hS => ?_)
        replace K := K h8 eh8
        have ta1 : mT h8 a1 = 2 := by rw [eh8]; exact ta1
        refine mw_iload (pc' := 172) dX8_tally_170 rfl rfl ?_
        refine mw_callS (pc' := 175) (b' := (0, 0)) (b1 := b) (av := [.inl (mI h (a1 + 3) (v7 + (f_X11_lowestBit v6)).toNatClampNeg)]) (rest := []) dX8_tally_172 rfl lkX8_118 rfl rfl (Nat.le_of_ble_eq_true rfl) ⟨Nat.le_of_eq (Nat.zero_add _), Nat.le_of_eq (Nat.zero_add _)⟩ ?_
        refine pX11_maybeSilent ?_
        refine mw_if_eq (pc' := 178) (tgt := 188) dX8_tally_175 rfl (by decide) (fun c12 => ?_) (fun c12 => ?_)
        · replace K := K.1 c12
          refine mw_iinc (pc' := 191) (v := v8 + 1) dX8_tally_188 rfl (by decide) rfl rfl ?_
          show mW _ _ _ _ _ [some (.inr (some 41)), some (.inr (some a1)), some (.inl v2), some (.inl v3), some (.inl v4), some (.inl v5), some (.inl (v6 &&& (v6 - 1))), some (.inl v7), some (.inl (v8 + 1)), some (.inl (mI h (a1 + 3) (v7 + (f_X11_lowestBit v6)).toNatClampNeg)), some (.inl (f_X11_echoSteps (mI h (a1 + 3) (v7 + (f_X11_lowestBit v6)).toNatClampNeg)))] _ _ _
          refine mw_goto (tgt := 111) dX8_tally_191 (by decide) ?_
          refine mw_weak (ls' := [some (.inr (some 41)), some (.inr (some a1)), some (.inl v2), some (.inl v3), some (.inl v4), some (.inl v5), some (.inl (v6 &&& (v6 - 1))), some (.inl v7), some (.inl (v8 + 1)), none, none]) ?_ ?_
          · intro i v hv; match i, hv with
            | 0, hv => exact hv
            | 1, hv => exact hv
            | 2, hv => exact hv
            | 3, hv => exact hv
            | 4, hv => exact hv
            | 5, hv => exact hv
            | 6, hv => exact hv
            | 7, hv => exact hv
            | 8, hv => exact hv
            | 9, hv => cases hv
            | 10, hv => cases hv
            | n + 11, hv => cases hv
          exact K
        · replace K := K.2 c12
          refine mw_aload_n (pc' := 179) dX8_tally_178 rfl rfl ?_
          refine mw_getR (pc' := 182) dX8_tally_179 rfl flX8_21 rfl (skT_41 hS) ?_
          rw [skR_41_10 hS]
          refine mw_iconst (pc' := 183) (v := 0) dX8_tally_182 rfl (by decide) ?_
          refine mw_dup2 (pc' := 184) dX8_tally_183 rfl ?_
          obtain ⟨o9, K⟩ := K
          refine mw_ialdL (pc' := 185) dX8_tally_184 rfl (skT_45 hS) (skL_45 hS) o9 ?_
          refine mw_iconst (pc' := 186) (v := 1) dX8_tally_185 rfl (by decide) ?_
          refine mw_iadd (pc' := 187) dX8_tally_186 rfl ?_
          obtain ⟨o10, K⟩ := K
          refine mw_iastK (pc' := 188) dX8_tally_187 rfl (skT_45 hS) (skL_45 hS) o10 hS (fun h11 eh11 hS => ?_)
          replace K := K h11 eh11
          have ta1 : mT h11 a1 = 2 := by rw [eh11]; exact ta1
          refine mw_iinc (pc' := 191) (v := v8 + 1) dX8_tally_188 rfl (by decide) rfl rfl ?_
          show mW _ _ _ _ _ [some (.inr (some 41)), some (.inr (some a1)), some (.inl v2), some (.inl v3), some (.inl v4), some (.inl v5), some (.inl (v6 &&& (v6 - 1))), some (.inl v7), some (.inl (v8 + 1)), some (.inl (mI h (a1 + 3) (v7 + (f_X11_lowestBit v6)).toNatClampNeg)), some (.inl (f_X11_echoSteps (mI h (a1 + 3) (v7 + (f_X11_lowestBit v6)).toNatClampNeg)))] _ _ _
          refine mw_goto (tgt := 111) dX8_tally_191 (by decide) ?_
          refine mw_weak (ls' := [some (.inr (some 41)), some (.inr (some a1)), some (.inl v2), some (.inl v3), some (.inl v4), some (.inl v5), some (.inl (v6 &&& (v6 - 1))), some (.inl v7), some (.inl (v8 + 1)), none, none]) ?_ ?_
          · intro i v hv; match i, hv with
            | 0, hv => exact hv
            | 1, hv => exact hv
            | 2, hv => exact hv
            | 3, hv => exact hv
            | 4, hv => exact hv
            | 5, hv => exact hv
            | 6, hv => exact hv
            | 7, hv => exact hv
            | 8, hv => exact hv
            | 9, hv => cases hv
            | 10, hv => cases hv
            | n + 11, hv => cases hv
          exact K

set_option maxRecDepth 100000 in
set_option maxHeartbeats 4000000 in
theorem qX8_takeIfBetter {G : mG} {d : Nat} {b : Nat × Nat} {h : mH} {Q : Option mV → mH → Prop} (v1 : Int32) (hS : mSk h)
    (K : mW G kX8_takeIfBetter d b 4 [some (.inr (some 41)), some (.inl v1), some (.inl 0), some (.inl 1)] [] h Q) : mC G kX8_takeIfBetter d b [.inr (some 41), .inl v1] h Q := by
  refine mC_in rfl (Nat.le_of_ble_eq_true rfl) ?_
  show mW _ _ _ _ _ [some (.inr (some 41)), some (.inl v1), none, none] _ _ _
  refine mw_iconst (pc' := 1) (v := 0) dX8_takeIfBetter_0 rfl (by decide) ?_
  refine mw_istore_n (pc' := 2) dX8_takeIfBetter_1 rfl (by decide) ?_
  show mW _ _ _ _ _ [some (.inr (some 41)), some (.inl v1), some (.inl 0), none] _ _ _
  refine mw_iconst (pc' := 3) (v := 1) dX8_takeIfBetter_2 rfl (by decide) ?_
  refine mw_istore_n (pc' := 4) dX8_takeIfBetter_3 rfl (by decide) ?_
  show mW _ _ _ _ _ [some (.inr (some 41)), some (.inl v1), some (.inl 0), some (.inl 1)] _ _ _
  exact K

set_option maxRecDepth 100000 in
set_option maxHeartbeats 4000000 in
theorem qX8_takeIfBetter_4 {G : mG} {d : Nat} {b : Nat × Nat} {h : mH} {Q : Option mV → mH → Prop} (v1 : Int32) (v2 : Int32) (v3 : Int32) (hS : mSk h)
    (K : ((32 ≤ v3 → vp_in v2 32 ∧ (((mI h 41 6) ≤ (mI h 45 v2.toNatClampNeg) → Q none h) ∧ (¬ ((mI h 41 6) ≤ (mI h 45 v2.toNatClampNeg)) → ∀ h2, h2 = mSI h 41 5 v1 → vp_in v2 32 ∧ ∀ h4, h4 = mSI h2 41 6 (mI h2 45 v2.toNatClampNeg) → ∀ h5, h5 = mSI h4 41 7 (2 * v2) → Q none h5))) ∧ (¬ (32 ≤ v3) → vp_in v3 32 ∧ vp_in v2 32 ∧ (((mI h 45 v3.toNatClampNeg) ≤ (mI h 45 v2.toNatClampNeg) → mW G kX8_takeIfBetter d b 4 [some (.inr (some 41)), some (.inl v1), some (.inl v2), some (.inl (v3 + 1))] [] h Q) ∧ (¬ ((mI h 45 v3.toNatClampNeg) ≤ (mI h 45 v2.toNatClampNeg)) → mW G kX8_takeIfBetter d b 4 [some (.inr (some 41)), some (.inl v1), some (.inl v3), some (.inl (v3 + 1))] [] h Q))))) : mW G kX8_takeIfBetter d b 4 [some (.inr (some 41)), some (.inl v1), some (.inl v2), some (.inl v3)] [] h Q := by
  refine mw_iload_n (pc' := 5) dX8_takeIfBetter_4 rfl rfl ?_
  refine mw_bipush (pc' := 7) (v := 32) dX8_takeIfBetter_5 rfl (by decide) ?_
  refine mw_icmp_ge (pc' := 10) (tgt := 33) dX8_takeIfBetter_7 rfl (by decide) (fun c10 => ?_) (fun c10 => ?_)
  · replace K := K.1 c10
    refine mw_aload_n (pc' := 34) dX8_takeIfBetter_33 rfl rfl ?_
    refine mw_getR (pc' := 37) dX8_takeIfBetter_34 rfl flX8_21 rfl (skT_41 hS) ?_
    rw [skR_41_10 hS]
    refine mw_iload_n (pc' := 38) dX8_takeIfBetter_37 rfl rfl ?_
    obtain ⟨o1, K⟩ := K
    refine mw_ialdL (pc' := 39) dX8_takeIfBetter_38 rfl (skT_45 hS) (skL_45 hS) o1 ?_
    refine mw_aload_n (pc' := 40) dX8_takeIfBetter_39 rfl rfl ?_
    refine mw_getI (pc' := 43) dX8_takeIfBetter_40 rfl flX8_70 rfl (skT_41 hS) ?_
    refine mw_icmp_ge (pc' := 46) (tgt := 68) dX8_takeIfBetter_43 rfl (by decide) (fun c6 => ?_) (fun c6 => ?_)
    · replace K := K.1 c6
      exact mw_ret dX8_takeIfBetter_68 rfl K
    · replace K := K.2 c6
      refine mw_aload_n (pc' := 47) dX8_takeIfBetter_46 rfl rfl ?_
      refine mw_iload_n (pc' := 48) dX8_takeIfBetter_47 rfl rfl ?_
      refine mw_putIK (pc' := 51) dX8_takeIfBetter_48 rfl flX8_121 rfl (Or.inl rfl) ⟨rfl, rfl⟩ (skT_41 hS) hS (fun h2 eh2 hS => ?_)
      replace K := K h2 eh2
      refine mw_aload_n (pc' := 52) dX8_takeIfBetter_51 rfl rfl ?_
      refine mw_aload_n (pc' := 53) dX8_takeIfBetter_52 rfl rfl ?_
      refine mw_getR (pc' := 56) dX8_takeIfBetter_53 rfl flX8_21 rfl (skT_41 hS) ?_
      rw [skR_41_10 hS]
      refine mw_iload_n (pc' := 57) dX8_takeIfBetter_56 rfl rfl ?_
      obtain ⟨o3, K⟩ := K
      refine mw_ialdL (pc' := 58) dX8_takeIfBetter_57 rfl (skT_45 hS) (skL_45 hS) o3 ?_
      refine mw_putIK (pc' := 61) dX8_takeIfBetter_58 rfl flX8_70 rfl (Or.inl rfl) ⟨rfl, rfl⟩ (skT_41 hS) hS (fun h4 eh4 hS => ?_)
      replace K := K h4 eh4
      refine mw_aload_n (pc' := 62) dX8_takeIfBetter_61 rfl rfl ?_
      refine mw_iconst (pc' := 63) (v := 2) dX8_takeIfBetter_62 rfl (by decide) ?_
      refine mw_iload_n (pc' := 64) dX8_takeIfBetter_63 rfl rfl ?_
      refine mw_imul (pc' := 65) dX8_takeIfBetter_64 rfl ?_
      refine mw_putIK (pc' := 68) dX8_takeIfBetter_65 rfl flX8_124 rfl (Or.inl rfl) ⟨rfl, rfl⟩ (skT_41 hS) hS (fun h5 eh5 hS => ?_)
      replace K := K h5 eh5
      exact mw_ret dX8_takeIfBetter_68 rfl K
  · replace K := K.2 c10
    refine mw_aload_n (pc' := 11) dX8_takeIfBetter_10 rfl rfl ?_
    refine mw_getR (pc' := 14) dX8_takeIfBetter_11 rfl flX8_21 rfl (skT_41 hS) ?_
    rw [skR_41_10 hS]
    refine mw_iload_n (pc' := 15) dX8_takeIfBetter_14 rfl rfl ?_
    obtain ⟨o7, K⟩ := K
    refine mw_ialdL (pc' := 16) dX8_takeIfBetter_15 rfl (skT_45 hS) (skL_45 hS) o7 ?_
    refine mw_aload_n (pc' := 17) dX8_takeIfBetter_16 rfl rfl ?_
    refine mw_getR (pc' := 20) dX8_takeIfBetter_17 rfl flX8_21 rfl (skT_41 hS) ?_
    rw [skR_41_10 hS]
    refine mw_iload_n (pc' := 21) dX8_takeIfBetter_20 rfl rfl ?_
    obtain ⟨o8, K⟩ := K
    refine mw_ialdL (pc' := 22) dX8_takeIfBetter_21 rfl (skT_45 hS) (skL_45 hS) o8 ?_
    refine mw_icmp_le (pc' := 25) (tgt := 27) dX8_takeIfBetter_22 rfl (by decide) (fun c9 => ?_) (fun c9 => ?_)
    · replace K := K.1 c9
      refine mw_iinc (pc' := 30) (v := v3 + 1) dX8_takeIfBetter_27 rfl (by decide) rfl rfl ?_
      show mW _ _ _ _ _ [some (.inr (some 41)), some (.inl v1), some (.inl v2), some (.inl (v3 + 1))] _ _ _
      refine mw_goto (tgt := 4) dX8_takeIfBetter_30 (by decide) ?_
      exact K
    · replace K := K.2 c9
      refine mw_iload_n (pc' := 26) dX8_takeIfBetter_25 rfl rfl ?_
      refine mw_istore_n (pc' := 27) dX8_takeIfBetter_26 rfl (by decide) ?_
      show mW _ _ _ _ _ [some (.inr (some 41)), some (.inl v1), some (.inl v3), some (.inl v3)] _ _ _
      refine mw_iinc (pc' := 30) (v := v3 + 1) dX8_takeIfBetter_27 rfl (by decide) rfl rfl ?_
      show mW _ _ _ _ _ [some (.inr (some 41)), some (.inl v1), some (.inl v3), some (.inl (v3 + 1))] _ _ _
      refine mw_goto (tgt := 4) dX8_takeIfBetter_30 (by decide) ?_
      exact K

set_option maxRecDepth 100000 in
set_option maxHeartbeats 4000000 in
theorem qX8_weighTwo {G : mG} {d : Nat} {b : Nat × Nat} {h : mH} {Q : Option mV → mH → Prop} (v3 : Int32) (hS : mSk h)
    (K : ((¬ (mI h 41 13) = v3 → ∀ h1, h1 = mSI h 41 13 v3 → mC G kX8_countStates (d + 4) (0, 0) [.inr (some 41), .inr (some 33), .inr (some 28)] h1 (fun r h2 => r = none ∧ mSk h2 ∧ ∀ h3, h3 = mSI h2 41 9 1000000 → mW G kX8_weighTwo (d + 5) b 29 [some (.inr (some 41)), some (.inr (some 33)), some (.inr (some 28)), none, some (.inl 0), none] [] h3 Q)) ∧ ((mI h 41 13) = v3 → Q none h))) : mC G kX8_weighTwo (d + 5) b [.inr (some 41), .inr (some 33), .inr (some 28), .inl v3] h Q := by
  refine mC_in rfl (Nat.le_of_ble_eq_true rfl) ?_
  show mW _ _ _ _ _ [some (.inr (some 41)), some (.inr (some 33)), some (.inr (some 28)), some (.inl v3), none, none] _ _ _
  refine mw_aload_n (pc' := 1) dX8_weighTwo_0 rfl rfl ?_
  refine mw_getI (pc' := 4) dX8_weighTwo_1 rfl flX8_127 rfl (skT_41 hS) ?_
  refine mw_iload_n (pc' := 5) dX8_weighTwo_4 rfl rfl ?_
  refine mw_icmp_ne (pc' := 8) (tgt := 9) dX8_weighTwo_5 rfl (by decide) (fun c4 => ?_) (fun c4 => ?_)
  · replace K := K.1 c4
    refine mw_aload_n (pc' := 10) dX8_weighTwo_9 rfl rfl ?_
    refine mw_iload_n (pc' := 11) dX8_weighTwo_10 rfl rfl ?_
    refine mw_putIK (pc' := 14) dX8_weighTwo_11 rfl flX8_127 rfl (Or.inl rfl) ⟨rfl, rfl⟩ (skT_41 hS) hS (fun h1 eh1 hS => ?_)
    replace K := K h1 eh1
    refine mw_aload_n (pc' := 15) dX8_weighTwo_14 rfl rfl ?_
    refine mw_aload_n (pc' := 16) dX8_weighTwo_15 rfl rfl ?_
    refine mw_aload_n (pc' := 17) dX8_weighTwo_16 rfl rfl ?_
    refine mw_callV (pc' := 20) (b' := (0, 0)) (b1 := b) (av := [.inr (some 33), .inr (some 28)]) (rest := []) dX8_weighTwo_17 rfl lkX8_65 rfl rfl (Nat.le_of_ble_eq_true rfl) ⟨Nat.le_of_eq (Nat.zero_add _), Nat.le_of_eq (Nat.zero_add _)⟩ (skT_41 hS) ?_
    refine mC_mono (fun r h2 hr => ?_) K
    obtain ⟨rfl, hS, K⟩ := hr
    show mW _ _ _ _ _ _ [] _ _
    refine mw_aload_n (pc' := 21) dX8_weighTwo_20 rfl rfl ?_
    refine mw_ldc (pc' := 23) dX8_weighTwo_21 rfl cnX8_69 ?_
    refine mw_putIK (pc' := 26) dX8_weighTwo_23 rfl flX8_130 rfl (Or.inl rfl) ⟨rfl, rfl⟩ (skT_41 hS) hS (fun h3 eh3 hS => ?_)
    replace K := K h3 eh3
    refine mw_iconst (pc' := 27) (v := 0) dX8_weighTwo_26 rfl (by decide) ?_
    refine mw_istore (pc' := 29) dX8_weighTwo_27 rfl (by decide) ?_
    show mW _ _ _ _ _ [some (.inr (some 41)), some (.inr (some 33)), some (.inr (some 28)), some (.inl v3), some (.inl 0), none] _ _ _
    refine mw_weak (ls' := [some (.inr (some 41)), some (.inr (some 33)), some (.inr (some 28)), none, some (.inl 0), none]) ?_ ?_
    · intro i v hv; match i, hv with
      | 0, hv => exact hv
      | 1, hv => exact hv
      | 2, hv => exact hv
      | 3, hv => cases hv
      | 4, hv => exact hv
      | 5, hv => cases hv
      | n + 6, hv => cases hv
    exact K
  · replace K := K.2 c4
    exact mw_ret dX8_weighTwo_8 rfl K

set_option maxRecDepth 100000 in
set_option maxHeartbeats 4000000 in
theorem qX8_weighTwo_29 {G : mG} {d : Nat} {b : Nat × Nat} {h : mH} {Q : Option mV → mH → Prop} (v4 : Int32) (hS : mSk h)
    (K : ((6 ≤ v4 → Q none h) ∧ (¬ (6 ≤ v4) → mC G kX8_isTold (d + 4) (0, 0) [.inr (some 41), .inl v4] h (fun r h1 => ∃ x2, r = some (.inl x2) ∧ mSk h1 ∧ ((x2 = 0 → mW G kX8_weighTwo (d + 5) b 29 [some (.inr (some 41)), some (.inr (some 33)), some (.inr (some 28)), none, some (.inl (v4 + 1)), none] [] h1 Q) ∧ (¬ x2 = 0 → mC G kX8_staysBehind (d + 4) (0, 0) [.inr (some 41), .inr (some 33), .inr (some 28), .inl v4] h1 (fun r h3 => ∃ x4, r = some (.inl x4) ∧ mSk h3 ∧ (((mI h3 41 9) ≤ x4 → mW G kX8_weighTwo (d + 5) b 29 [some (.inr (some 41)), some (.inr (some 33)), some (.inr (some 28)), none, some (.inl (v4 + 1)), none] [] h3 Q) ∧ (¬ ((mI h3 41 9) ≤ x4) → ∀ h5, h5 = mSI h3 41 9 x4 → ∀ h6, h6 = mSI h5 41 8 v4 → mW G kX8_weighTwo (d + 5) b 29 [some (.inr (some 41)), some (.inr (some 33)), some (.inr (some 28)), none, some (.inl (v4 + 1)), none] [] h6 Q))))))))) : mW G kX8_weighTwo (d + 5) b 29 [some (.inr (some 41)), some (.inr (some 33)), some (.inr (some 28)), none, some (.inl v4), none] [] h Q := by
  refine mw_iload (pc' := 31) dX8_weighTwo_29 rfl rfl ?_
  refine mw_bipush (pc' := 33) (v := 6) dX8_weighTwo_31 rfl (by decide) ?_
  refine mw_icmp_ge (pc' := 36) (tgt := 82) dX8_weighTwo_33 rfl (by decide) (fun c9 => ?_) (fun c9 => ?_)
  · replace K := K.1 c9
    exact mw_ret dX8_weighTwo_82 rfl K
  · replace K := K.2 c9
    refine mw_aload_n (pc' := 37) dX8_weighTwo_36 rfl rfl ?_
    refine mw_iload (pc' := 39) dX8_weighTwo_37 rfl rfl ?_
    refine mw_callV (pc' := 42) (b' := (0, 0)) (b1 := b) (av := [.inl v4]) (rest := []) dX8_weighTwo_39 rfl lkX8_73 rfl rfl (Nat.le_of_ble_eq_true rfl) ⟨Nat.le_of_eq (Nat.zero_add _), Nat.le_of_eq (Nat.zero_add _)⟩ (skT_41 hS) ?_
    refine mC_mono (fun r h1 hr => ?_) K
    obtain ⟨x2, rfl, hS, K⟩ := hr
    show mW _ _ _ _ _ _ [.inl x2] _ _
    refine mw_if_eq (pc' := 45) (tgt := 76) dX8_weighTwo_42 rfl (by decide) (fun c8 => ?_) (fun c8 => ?_)
    · replace K := K.1 c8
      refine mw_iinc (pc' := 79) (v := v4 + 1) dX8_weighTwo_76 rfl (by decide) rfl rfl ?_
      show mW _ _ _ _ _ [some (.inr (some 41)), some (.inr (some 33)), some (.inr (some 28)), none, some (.inl (v4 + 1)), none] _ _ _
      refine mw_goto (tgt := 29) dX8_weighTwo_79 (by decide) ?_
      exact K
    · replace K := K.2 c8
      refine mw_aload_n (pc' := 46) dX8_weighTwo_45 rfl rfl ?_
      refine mw_aload_n (pc' := 47) dX8_weighTwo_46 rfl rfl ?_
      refine mw_aload_n (pc' := 48) dX8_weighTwo_47 rfl rfl ?_
      refine mw_iload (pc' := 50) dX8_weighTwo_48 rfl rfl ?_
      refine mw_callV (pc' := 53) (b' := (0, 0)) (b1 := b) (av := [.inr (some 33), .inr (some 28), .inl v4]) (rest := []) dX8_weighTwo_50 rfl lkX8_133 rfl rfl (Nat.le_of_ble_eq_true rfl) ⟨Nat.le_of_eq (Nat.zero_add _), Nat.le_of_eq (Nat.zero_add _)⟩ (skT_41 hS) ?_
      refine mC_mono (fun r h3 hr => ?_) K
      obtain ⟨x4, rfl, hS, K⟩ := hr
      show mW _ _ _ _ _ _ [.inl x4] _ _
      refine mw_istore (pc' := 55) dX8_weighTwo_53 rfl (by decide) ?_
      show mW _ _ _ _ _ [some (.inr (some 41)), some (.inr (some 33)), some (.inr (some 28)), none, some (.inl v4), some (.inl x4)] _ _ _
      refine mw_iload (pc' := 57) dX8_weighTwo_55 rfl rfl ?_
      refine mw_aload_n (pc' := 58) dX8_weighTwo_57 rfl rfl ?_
      refine mw_getI (pc' := 61) dX8_weighTwo_58 rfl flX8_130 rfl (skT_41 hS) ?_
      refine mw_icmp_ge (pc' := 64) (tgt := 76) dX8_weighTwo_61 rfl (by decide) (fun c7 => ?_) (fun c7 => ?_)
      · replace K := K.1 c7
        refine mw_iinc (pc' := 79) (v := v4 + 1) dX8_weighTwo_76 rfl (by decide) rfl rfl ?_
        show mW _ _ _ _ _ [some (.inr (some 41)), some (.inr (some 33)), some (.inr (some 28)), none, some (.inl (v4 + 1)), some (.inl x4)] _ _ _
        refine mw_goto (tgt := 29) dX8_weighTwo_79 (by decide) ?_
        refine mw_weak (ls' := [some (.inr (some 41)), some (.inr (some 33)), some (.inr (some 28)), none, some (.inl (v4 + 1)), none]) ?_ ?_
        · intro i v hv; match i, hv with
          | 0, hv => exact hv
          | 1, hv => exact hv
          | 2, hv => exact hv
          | 3, hv => cases hv
          | 4, hv => exact hv
          | 5, hv => cases hv
          | n + 6, hv => cases hv
        exact K
      · replace K := K.2 c7
        refine mw_aload_n (pc' := 65) dX8_weighTwo_64 rfl rfl ?_
        refine mw_iload (pc' := 67) dX8_weighTwo_65 rfl rfl ?_
        refine mw_putIK (pc' := 70) dX8_weighTwo_67 rfl flX8_130 rfl (Or.inl rfl) ⟨rfl, rfl⟩ (skT_41 hS) hS (fun h5 eh5 hS => ?_)
        replace K := K h5 eh5
        refine mw_aload_n (pc' := 71) dX8_weighTwo_70 rfl rfl ?_
        refine mw_iload (pc' := 73) dX8_weighTwo_71 rfl rfl ?_
        refine mw_putIK (pc' := 76) dX8_weighTwo_73 rfl flX8_137 rfl (Or.inl rfl) ⟨rfl, rfl⟩ (skT_41 hS) hS (fun h6 eh6 hS => ?_)
        replace K := K h6 eh6
        refine mw_iinc (pc' := 79) (v := v4 + 1) dX8_weighTwo_76 rfl (by decide) rfl rfl ?_
        show mW _ _ _ _ _ [some (.inr (some 41)), some (.inr (some 33)), some (.inr (some 28)), none, some (.inl (v4 + 1)), some (.inl x4)] _ _ _
        refine mw_goto (tgt := 29) dX8_weighTwo_79 (by decide) ?_
        refine mw_weak (ls' := [some (.inr (some 41)), some (.inr (some 33)), some (.inr (some 28)), none, some (.inl (v4 + 1)), none]) ?_ ?_
        · intro i v hv; match i, hv with
          | 0, hv => exact hv
          | 1, hv => exact hv
          | 2, hv => exact hv
          | 3, hv => cases hv
          | 4, hv => exact hv
          | 5, hv => cases hv
          | n + 6, hv => cases hv
        exact K

set_option maxRecDepth 100000 in
set_option maxHeartbeats 4000000 in
theorem qX8_staysBehind {G : mG} {d : Nat} {b : Nat × Nat} {h : mH} {Q : Option mV → mH → Prop} (v3 : Int32) (hS : mSk h)
    (K : mC G kJ7_fill_53178 (d + 3) (0, 0) [.inr (some 45), .inl 1000000] h (fun r h1 => r = none ∧ mSk h1 ∧ mW G kX8_staysBehind (d + 4) b 12 [some (.inr (some 41)), some (.inr (some 33)), some (.inr (some 28)), some (.inl v3), some (.inl 0), none, none] [] h1 Q)) : mC G kX8_staysBehind (d + 4) b [.inr (some 41), .inr (some 33), .inr (some 28), .inl v3] h Q := by
  refine mC_in rfl (Nat.le_of_ble_eq_true rfl) ?_
  show mW _ _ _ _ _ [some (.inr (some 41)), some (.inr (some 33)), some (.inr (some 28)), some (.inl v3), none, none, none] _ _ _
  refine mw_aload_n (pc' := 1) dX8_staysBehind_0 rfl rfl ?_
  refine mw_getR (pc' := 4) dX8_staysBehind_1 rfl flX8_21 rfl (skT_41 hS) ?_
  rw [skR_41_10 hS]
  refine mw_ldc (pc' := 6) dX8_staysBehind_4 rfl cnX8_69 ?_
  refine mw_callS (pc' := 9) (b' := (0, 0)) (b1 := b) (av := [.inr (some 45), .inl 1000000]) (rest := []) dX8_staysBehind_6 rfl lkX8_77 rfl rfl (Nat.le_of_ble_eq_true rfl) ⟨Nat.le_of_eq (Nat.zero_add _), Nat.le_of_eq (Nat.zero_add _)⟩ ?_
  refine mC_mono (fun r h1 hr => ?_) K
  obtain ⟨rfl, hS, K⟩ := hr
  show mW _ _ _ _ _ _ [] _ _
  refine mw_iconst (pc' := 10) (v := 0) dX8_staysBehind_9 rfl (by decide) ?_
  refine mw_istore (pc' := 12) dX8_staysBehind_10 rfl (by decide) ?_
  show mW _ _ _ _ _ [some (.inr (some 41)), some (.inr (some 33)), some (.inr (some 28)), some (.inl v3), some (.inl 0), none, none] _ _ _
  exact K

set_option maxRecDepth 100000 in
set_option maxHeartbeats 4000000 in
theorem qX8_staysBehind_12 {G : mG} {d : Nat} {b : Nat × Nat} {h : mH} {Q : Option mV → mH → Prop} (v3 : Int32) (v4 : Int32) (hS : mSk h)
    (K : ((6 ≤ v4 → mW G kX8_staysBehind (d + 4) b 138 [some (.inr (some 41)), none, none, none, some (.inl 0), some (.inl 0), none] [] h Q) ∧ (¬ (6 ≤ v4) → mC G kX8_isTold (d + 3) (0, 0) [.inr (some 41), .inl v4] h (fun r h1 => ∃ x2, r = some (.inl x2) ∧ mSk h1 ∧ ((x2 = 0 → mW G kX8_staysBehind (d + 4) b 12 [some (.inr (some 41)), some (.inr (some 33)), some (.inr (some 28)), some (.inl v3), some (.inl (v4 + 1)), none, none] [] h1 Q) ∧ (¬ x2 = 0 → mC G kJ7_fill_53178 (d + 3) (0, 0) [.inr (some 46), .inl 0] h1 (fun r h3 => r = none ∧ mSk h3 ∧ mW G kX8_staysBehind (d + 4) b 39 [some (.inr (some 41)), some (.inr (some 33)), some (.inr (some 28)), some (.inl v3), some (.inl v4), some (.inl 0), none] [] h3 Q))))))) : mW G kX8_staysBehind (d + 4) b 12 [some (.inr (some 41)), some (.inr (some 33)), some (.inr (some 28)), some (.inl v3), some (.inl v4), none, none] [] h Q := by
  refine mw_iload (pc' := 14) dX8_staysBehind_12 rfl rfl ?_
  refine mw_bipush (pc' := 16) (v := 6) dX8_staysBehind_14 rfl (by decide) ?_
  refine mw_icmp_ge (pc' := 19) (tgt := 132) dX8_staysBehind_16 rfl (by decide) (fun c5 => ?_) (fun c5 => ?_)
  · replace K := K.1 c5
    refine mw_iconst (pc' := 133) (v := 0) dX8_staysBehind_132 rfl (by decide) ?_
    refine mw_istore (pc' := 135) dX8_staysBehind_133 rfl (by decide) ?_
    show mW _ _ _ _ _ [some (.inr (some 41)), some (.inr (some 33)), some (.inr (some 28)), some (.inl v3), some (.inl 0), none, none] _ _ _
    refine mw_iconst (pc' := 136) (v := 0) dX8_staysBehind_135 rfl (by decide) ?_
    refine mw_istore (pc' := 138) dX8_staysBehind_136 rfl (by decide) ?_
    show mW _ _ _ _ _ [some (.inr (some 41)), some (.inr (some 33)), some (.inr (some 28)), some (.inl v3), some (.inl 0), some (.inl 0), none] _ _ _
    refine mw_weak (ls' := [some (.inr (some 41)), none, none, none, some (.inl 0), some (.inl 0), none]) ?_ ?_
    · intro i v hv; match i, hv with
      | 0, hv => exact hv
      | 1, hv => cases hv
      | 2, hv => cases hv
      | 3, hv => cases hv
      | 4, hv => exact hv
      | 5, hv => exact hv
      | 6, hv => cases hv
      | n + 7, hv => cases hv
    exact K
  · replace K := K.2 c5
    refine mw_aload_n (pc' := 20) dX8_staysBehind_19 rfl rfl ?_
    refine mw_iload (pc' := 22) dX8_staysBehind_20 rfl rfl ?_
    refine mw_callV (pc' := 25) (b' := (0, 0)) (b1 := b) (av := [.inl v4]) (rest := []) dX8_staysBehind_22 rfl lkX8_73 rfl rfl (Nat.le_of_ble_eq_true rfl) ⟨Nat.le_of_eq (Nat.zero_add _), Nat.le_of_eq (Nat.zero_add _)⟩ (skT_41 hS) ?_
    refine mC_mono (fun r h1 hr => ?_) K
    obtain ⟨x2, rfl, hS, K⟩ := hr
    show mW _ _ _ _ _ _ [.inl x2] _ _
    refine mw_if_eq (pc' := 28) (tgt := 126) dX8_staysBehind_25 rfl (by decide) (fun c4 => ?_) (fun c4 => ?_)
    · replace K := K.1 c4
      refine mw_iinc (pc' := 129) (v := v4 + 1) dX8_staysBehind_126 rfl (by decide) rfl rfl ?_
      show mW _ _ _ _ _ [some (.inr (some 41)), some (.inr (some 33)), some (.inr (some 28)), some (.inl v3), some (.inl (v4 + 1)), none, none] _ _ _
      refine mw_goto (tgt := 12) dX8_staysBehind_129 (by decide) ?_
      exact K
    · replace K := K.2 c4
      refine mw_aload_n (pc' := 29) dX8_staysBehind_28 rfl rfl ?_
      refine mw_getR (pc' := 32) dX8_staysBehind_29 rfl flX8_24 rfl (skT_41 hS) ?_
      rw [skR_41_11 hS]
      refine mw_iconst (pc' := 33) (v := 0) dX8_staysBehind_32 rfl (by decide) ?_
      refine mw_callS (pc' := 36) (b' := (0, 0)) (b1 := b) (av := [.inr (some 46), .inl 0]) (rest := []) dX8_staysBehind_33 rfl lkX8_77 rfl rfl (Nat.le_of_ble_eq_true rfl) ⟨Nat.le_of_eq (Nat.zero_add _), Nat.le_of_eq (Nat.zero_add _)⟩ ?_
      refine mC_mono (fun r h3 hr => ?_) K
      obtain ⟨rfl, hS, K⟩ := hr
      show mW _ _ _ _ _ _ [] _ _
      refine mw_iconst (pc' := 37) (v := 0) dX8_staysBehind_36 rfl (by decide) ?_
      refine mw_istore (pc' := 39) dX8_staysBehind_37 rfl (by decide) ?_
      show mW _ _ _ _ _ [some (.inr (some 41)), some (.inr (some 33)), some (.inr (some 28)), some (.inl v3), some (.inl v4), some (.inl 0), none] _ _ _
      exact K

set_option maxRecDepth 100000 in
set_option maxHeartbeats 4000000 in
theorem qX8_staysBehind_39 {G : mG} {d : Nat} {b : Nat × Nat} {h : mH} {Q : Option mV → mH → Prop} (v3 : Int32) (v4 : Int32) (v5 : Int32) (hS : mSk h)
    (K : (((mI h 33 1) ≤ v5 → mW G kX8_staysBehind (d + 4) b 90 [some (.inr (some 41)), some (.inr (some 33)), some (.inr (some 28)), some (.inl v3), some (.inl v4), some (.inl 0), none] [] h Q) ∧ (¬ ((mI h 33 1) ≤ v5) → vp_in v5 8 ∧ ∃ y2, mR h 34 v5.toNatClampNeg = some y2 ∧ mT h y2 = 2 ∧ mC G kX1_rowsAt (d + 3) (0, 0) [.inr (some y2), .inl ((mI h 28 1) - 1), .inl (mI h 28 2)] h (fun r h3 => ∃ x4, r = some (.inl x4) ∧ mSk h3 ∧ mT h3 y2 = 2 ∧ mC G kX8_tallyPairs (d + 3) (0, 0) [.inr (some 41), .inr (some y2), .inl x4, .inl v3, .inl v4] h3 (fun r h5 => r = none ∧ mSk h5 ∧ mT h5 y2 = 2 ∧ mW G kX8_staysBehind (d + 4) b 39 [some (.inr (some 41)), some (.inr (some 33)), some (.inr (some 28)), some (.inl v3), some (.inl v4), some (.inl (v5 + 1)), none] [] h5 Q))))) : mW G kX8_staysBehind (d + 4) b 39 [some (.inr (some 41)), some (.inr (some 33)), some (.inr (some 28)), some (.inl v3), some (.inl v4), some (.inl v5), none] [] h Q := by
  refine mw_iload (pc' := 41) dX8_staysBehind_39 rfl rfl ?_
  refine mw_aload_n (pc' := 42) dX8_staysBehind_41 rfl rfl ?_
  refine mw_getI (pc' := 45) dX8_staysBehind_42 rfl flX8_34 rfl (skT_33 hS) ?_
  refine mw_icmp_ge (pc' := 48) (tgt := 87) dX8_staysBehind_45 rfl (by decide) (fun c6 => ?_) (fun c6 => ?_)
  · replace K := K.1 c6
    refine mw_iconst (pc' := 88) (v := 0) dX8_staysBehind_87 rfl (by decide) ?_
    refine mw_istore (pc' := 90) dX8_staysBehind_88 rfl (by decide) ?_
    show mW _ _ _ _ _ [some (.inr (some 41)), some (.inr (some 33)), some (.inr (some 28)), some (.inl v3), some (.inl v4), some (.inl 0), none] _ _ _
    exact K
  · replace K := K.2 c6
    refine mw_aload_n (pc' := 49) dX8_staysBehind_48 rfl rfl ?_
    refine mw_getR (pc' := 52) dX8_staysBehind_49 rfl flX8_39 rfl (skT_33 hS) ?_
    rw [skR_33_0 hS]
    refine mw_iload (pc' := 54) dX8_staysBehind_52 rfl rfl ?_
    obtain ⟨o1, K⟩ := K
    refine mw_aaldL (pc' := 55) dX8_staysBehind_54 rfl (t := 0) (by decide) (skT_34 hS) (skL_34 hS) o1 ?_
    refine mw_astore (pc' := 57) dX8_staysBehind_55 rfl (by decide) ?_
    show mW _ _ _ _ _ [some (.inr (some 41)), some (.inr (some 33)), some (.inr (some 28)), some (.inl v3), some (.inl v4), some (.inl v5), some (.inr (mR h 34 v5.toNatClampNeg))] _ _ _
    refine mw_aload_n (pc' := 58) dX8_staysBehind_57 rfl rfl ?_
    refine mw_aload (pc' := 60) dX8_staysBehind_58 rfl rfl ?_
    refine mw_aload (pc' := 62) dX8_staysBehind_60 rfl rfl ?_
    refine mw_aload_n (pc' := 63) dX8_staysBehind_62 rfl rfl ?_
    refine mw_getI (pc' := 66) dX8_staysBehind_63 rfl flX8_48 rfl (skT_28 hS) ?_
    refine mw_iconst (pc' := 67) (v := 1) dX8_staysBehind_66 rfl (by decide) ?_
    refine mw_isub (pc' := 68) dX8_staysBehind_67 rfl ?_
    refine mw_aload_n (pc' := 69) dX8_staysBehind_68 rfl rfl ?_
    refine mw_getI (pc' := 72) dX8_staysBehind_69 rfl flX8_51 rfl (skT_28 hS) ?_
    obtain ⟨y2, ey2, ty2, K⟩ := K
    rw [ey2]
    refine mw_callV (pc' := 75) (b' := (0, 0)) (b1 := b) (av := [.inl ((mI h 28 1) - 1), .inl (mI h 28 2)]) (rest := [.inr (some y2), .inr (some 41)]) dX8_staysBehind_72 rfl lkX8_54 rfl rfl (Nat.le_of_ble_eq_true rfl) ⟨Nat.le_of_eq (Nat.zero_add _), Nat.le_of_eq (Nat.zero_add _)⟩ (ty2) ?_
    refine mC_mono (fun r h3 hr => ?_) K
    obtain ⟨x4, rfl, hS, ty2, K⟩ := hr
    show mW _ _ _ _ _ _ [.inl x4, .inr (some y2), .inr (some 41)] _ _
    refine mw_iload_n (pc' := 76) dX8_staysBehind_75 rfl rfl ?_
    refine mw_iload (pc' := 78) dX8_staysBehind_76 rfl rfl ?_
    refine mw_callV (pc' := 81) (b' := (0, 0)) (b1 := b) (av := [.inr (some y2), .inl x4, .inl v3, .inl v4]) (rest := []) dX8_staysBehind_78 rfl lkX8_140 rfl rfl (Nat.le_of_ble_eq_true rfl) ⟨Nat.le_of_eq (Nat.zero_add _), Nat.le_of_eq (Nat.zero_add _)⟩ (skT_41 hS) ?_
    refine mC_mono (fun r h5 hr => ?_) K
    obtain ⟨rfl, hS, ty2, K⟩ := hr
    show mW _ _ _ _ _ _ [] _ _
    refine mw_iinc (pc' := 84) (v := v5 + 1) dX8_staysBehind_81 rfl (by decide) rfl rfl ?_
    show mW _ _ _ _ _ [some (.inr (some 41)), some (.inr (some 33)), some (.inr (some 28)), some (.inl v3), some (.inl v4), some (.inl (v5 + 1)), some (.inr (some y2))] _ _ _
    refine mw_goto (tgt := 39) dX8_staysBehind_84 (by decide) ?_
    refine mw_weak (ls' := [some (.inr (some 41)), some (.inr (some 33)), some (.inr (some 28)), some (.inl v3), some (.inl v4), some (.inl (v5 + 1)), none]) ?_ ?_
    · intro i v hv; match i, hv with
      | 0, hv => exact hv
      | 1, hv => exact hv
      | 2, hv => exact hv
      | 3, hv => exact hv
      | 4, hv => exact hv
      | 5, hv => exact hv
      | 6, hv => cases hv
      | n + 7, hv => cases hv
    exact K

set_option maxRecDepth 100000 in
set_option maxHeartbeats 4000000 in
theorem qX8_staysBehind_90 {G : mG} {d : Nat} {b : Nat × Nat} {h : mH} {Q : Option mV → mH → Prop} (v3 : Int32) (v4 : Int32) (v5 : Int32) (hS : mSk h)
    (K : ((32 ≤ v5 → mW G kX8_staysBehind (d + 4) b 12 [some (.inr (some 41)), some (.inr (some 33)), some (.inr (some 28)), some (.inl v3), some (.inl (v4 + 1)), none, none] [] h Q) ∧ (¬ (32 ≤ v5) → vp_in v5 32 ∧ mC G kX8_mostBehind (d + 3) (0, 0) [.inr (some 41), .inl v5] h (fun r h2 => ∃ x3, r = some (.inl x3) ∧ mSk h2 ∧ vp_in v5 32 ∧ ∀ h5, h5 = mSI h2 45 v5.toNatClampNeg (f_min (mI h 45 v5.toNatClampNeg) x3) → mW G kX8_staysBehind (d + 4) b 90 [some (.inr (some 41)), some (.inr (some 33)), some (.inr (some 28)), some (.inl v3), some (.inl v4), some (.inl (v5 + 1)), none] [] h5 Q)))) : mW G kX8_staysBehind (d + 4) b 90 [some (.inr (some 41)), some (.inr (some 33)), some (.inr (some 28)), some (.inl v3), some (.inl v4), some (.inl v5), none] [] h Q := by
  refine mw_iload (pc' := 92) dX8_staysBehind_90 rfl rfl ?_
  refine mw_bipush (pc' := 94) (v := 32) dX8_staysBehind_92 rfl (by decide) ?_
  refine mw_icmp_ge (pc' := 97) (tgt := 126) dX8_staysBehind_94 rfl (by decide) (fun c6 => ?_) (fun c6 => ?_)
  · replace K := K.1 c6
    refine mw_iinc (pc' := 129) (v := v4 + 1) dX8_staysBehind_126 rfl (by decide) rfl rfl ?_
    show mW _ _ _ _ _ [some (.inr (some 41)), some (.inr (some 33)), some (.inr (some 28)), some (.inl v3), some (.inl (v4 + 1)), some (.inl v5), none] _ _ _
    refine mw_goto (tgt := 12) dX8_staysBehind_129 (by decide) ?_
    refine mw_weak (ls' := [some (.inr (some 41)), some (.inr (some 33)), some (.inr (some 28)), some (.inl v3), some (.inl (v4 + 1)), none, none]) ?_ ?_
    · intro i v hv; match i, hv with
      | 0, hv => exact hv
      | 1, hv => exact hv
      | 2, hv => exact hv
      | 3, hv => exact hv
      | 4, hv => exact hv
      | 5, hv => cases hv
      | 6, hv => cases hv
      | n + 7, hv => cases hv
    exact K
  · replace K := K.2 c6
    refine mw_aload_n (pc' := 98) dX8_staysBehind_97 rfl rfl ?_
    refine mw_getR (pc' := 101) dX8_staysBehind_98 rfl flX8_21 rfl (skT_41 hS) ?_
    rw [skR_41_10 hS]
    refine mw_iload (pc' := 103) dX8_staysBehind_101 rfl rfl ?_
    refine mw_aload_n (pc' := 104) dX8_staysBehind_103 rfl rfl ?_
    refine mw_getR (pc' := 107) dX8_staysBehind_104 rfl flX8_21 rfl (skT_41 hS) ?_
    rw [skR_41_10 hS]
    refine mw_iload (pc' := 109) dX8_staysBehind_107 rfl rfl ?_
    obtain ⟨o1, K⟩ := K
    refine mw_ialdL (pc' := 110) dX8_staysBehind_109 rfl (skT_45 hS) (skL_45 hS) o1 ?_
    refine mw_aload_n (pc' := 111) dX8_staysBehind_110 rfl rfl ?_
    refine mw_iload (pc' := 113) dX8_staysBehind_111 rfl rfl ?_
    refine mw_callV (pc' := 116) (b' := (0, 0)) (b1 := b) (av := [.inl v5]) (rest := [.inl (mI h 45 v5.toNatClampNeg), .inl v5, .inr (some 45)]) dX8_staysBehind_113 rfl lkX8_144 rfl rfl (Nat.le_of_ble_eq_true rfl) ⟨Nat.le_of_eq (Nat.zero_add _), Nat.le_of_eq (Nat.zero_add _)⟩ (skT_41 hS) ?_
    refine mC_mono (fun r h2 hr => ?_) K
    obtain ⟨x3, rfl, hS, K⟩ := hr
    show mW _ _ _ _ _ _ [.inl x3, .inl (mI h 45 v5.toNatClampNeg), .inl v5, .inr (some 45)] _ _
    refine mw_mmin (pc' := 119) dX8_staysBehind_116 rfl lkX8_94 (Nat.le_of_ble_eq_true rfl) ?_
    obtain ⟨o4, K⟩ := K
    refine mw_iastK (pc' := 120) dX8_staysBehind_119 rfl (skT_45 hS) (skL_45 hS) o4 hS (fun h5 eh5 hS => ?_)
    replace K := K h5 eh5
    refine mw_iinc (pc' := 123) (v := v5 + 1) dX8_staysBehind_120 rfl (by decide) rfl rfl ?_
    show mW _ _ _ _ _ [some (.inr (some 41)), some (.inr (some 33)), some (.inr (some 28)), some (.inl v3), some (.inl v4), some (.inl (v5 + 1)), none] _ _ _
    refine mw_goto (tgt := 90) dX8_staysBehind_123 (by decide) ?_
    exact K

set_option maxRecDepth 100000 in
set_option maxHeartbeats 4000000 in
theorem qX8_staysBehind_138 {G : mG} {d : Nat} {b : Nat × Nat} {h : mH} {Q : Option mV → mH → Prop} (v4 : Int32) (v5 : Int32) (hS : mSk h)
    (K : ((32 ≤ v5 → Q (some (.inl v4)) h) ∧ (¬ (32 ≤ v5) → vp_in v5 32 ∧ mW G kX8_staysBehind (d + 4) b 138 [some (.inr (some 41)), none, none, none, some (.inl (f_max v4 (mI h 45 v5.toNatClampNeg))), some (.inl (v5 + 1)), none] [] h Q))) : mW G kX8_staysBehind (d + 4) b 138 [some (.inr (some 41)), none, none, none, some (.inl v4), some (.inl v5), none] [] h Q := by
  refine mw_iload (pc' := 140) dX8_staysBehind_138 rfl rfl ?_
  refine mw_bipush (pc' := 142) (v := 32) dX8_staysBehind_140 rfl (by decide) ?_
  refine mw_icmp_ge (pc' := 145) (tgt := 165) dX8_staysBehind_142 rfl (by decide) (fun c2 => ?_) (fun c2 => ?_)
  · replace K := K.1 c2
    refine mw_iload (pc' := 167) dX8_staysBehind_165 rfl rfl ?_
    exact mw_iret dX8_staysBehind_167 rfl rfl K
  · replace K := K.2 c2
    refine mw_iload (pc' := 147) dX8_staysBehind_145 rfl rfl ?_
    refine mw_aload_n (pc' := 148) dX8_staysBehind_147 rfl rfl ?_
    refine mw_getR (pc' := 151) dX8_staysBehind_148 rfl flX8_21 rfl (skT_41 hS) ?_
    rw [skR_41_10 hS]
    refine mw_iload (pc' := 153) dX8_staysBehind_151 rfl rfl ?_
    obtain ⟨o1, K⟩ := K
    refine mw_ialdL (pc' := 154) dX8_staysBehind_153 rfl (skT_45 hS) (skL_45 hS) o1 ?_
    refine mw_mmax (pc' := 157) dX8_staysBehind_154 rfl lkX8_99 (Nat.le_of_ble_eq_true rfl) ?_
    refine mw_istore (pc' := 159) dX8_staysBehind_157 rfl (by decide) ?_
    show mW _ _ _ _ _ [some (.inr (some 41)), none, none, none, some (.inl (f_max v4 (mI h 45 v5.toNatClampNeg))), some (.inl v5), none] _ _ _
    refine mw_iinc (pc' := 162) (v := v5 + 1) dX8_staysBehind_159 rfl (by decide) rfl rfl ?_
    show mW _ _ _ _ _ [some (.inr (some 41)), none, none, none, some (.inl (f_max v4 (mI h 45 v5.toNatClampNeg))), some (.inl (v5 + 1)), none] _ _ _
    refine mw_goto (tgt := 138) dX8_staysBehind_162 (by decide) ?_
    exact K

set_option maxRecDepth 100000 in
set_option maxHeartbeats 4000000 in
theorem qX8_mostBehind {G : mG} {d : Nat} {b : Nat × Nat} {h : mH} {Q : Option mV → mH → Prop} (v1 : Int32) (hS : mSk h)
    (K : mW G kX8_mostBehind (d + 1) b 4 [some (.inr (some 41)), some (.inl v1), some (.inl 0), some (.inl 0)] [] h Q) : mC G kX8_mostBehind (d + 1) b [.inr (some 41), .inl v1] h Q := by
  refine mC_in rfl (Nat.le_of_ble_eq_true rfl) ?_
  show mW _ _ _ _ _ [some (.inr (some 41)), some (.inl v1), none, none] _ _ _
  refine mw_iconst (pc' := 1) (v := 0) dX8_mostBehind_0 rfl (by decide) ?_
  refine mw_istore_n (pc' := 2) dX8_mostBehind_1 rfl (by decide) ?_
  show mW _ _ _ _ _ [some (.inr (some 41)), some (.inl v1), some (.inl 0), none] _ _ _
  refine mw_iconst (pc' := 3) (v := 0) dX8_mostBehind_2 rfl (by decide) ?_
  refine mw_istore_n (pc' := 4) dX8_mostBehind_3 rfl (by decide) ?_
  show mW _ _ _ _ _ [some (.inr (some 41)), some (.inl v1), some (.inl 0), some (.inl 0)] _ _ _
  exact K

set_option maxRecDepth 100000 in
set_option maxHeartbeats 4000000 in
theorem qX8_mostBehind_4 {G : mG} {d : Nat} {b : Nat × Nat} {h : mH} {Q : Option mV → mH → Prop} (v1 : Int32) (v2 : Int32) (v3 : Int32) (hS : mSk h)
    (K : ((32 ≤ v3 → Q (some (.inl v2)) h) ∧ (¬ (32 ≤ v3) → vp_in ((v1 * 32) + v3) 1024 ∧ mW G kX8_mostBehind (d + 1) b 4 [some (.inr (some 41)), some (.inl v1), some (.inl (f_max v2 (mI h 46 ((v1 * 32) + v3).toNatClampNeg))), some (.inl (v3 + 1))] [] h Q))) : mW G kX8_mostBehind (d + 1) b 4 [some (.inr (some 41)), some (.inl v1), some (.inl v2), some (.inl v3)] [] h Q := by
  refine mw_iload_n (pc' := 5) dX8_mostBehind_4 rfl rfl ?_
  refine mw_bipush (pc' := 7) (v := 32) dX8_mostBehind_5 rfl (by decide) ?_
  refine mw_icmp_ge (pc' := 10) (tgt := 32) dX8_mostBehind_7 rfl (by decide) (fun c2 => ?_) (fun c2 => ?_)
  · replace K := K.1 c2
    refine mw_iload_n (pc' := 33) dX8_mostBehind_32 rfl rfl ?_
    exact mw_iret dX8_mostBehind_33 rfl rfl K
  · replace K := K.2 c2
    refine mw_iload_n (pc' := 11) dX8_mostBehind_10 rfl rfl ?_
    refine mw_aload_n (pc' := 12) dX8_mostBehind_11 rfl rfl ?_
    refine mw_getR (pc' := 15) dX8_mostBehind_12 rfl flX8_24 rfl (skT_41 hS) ?_
    rw [skR_41_11 hS]
    refine mw_iload_n (pc' := 16) dX8_mostBehind_15 rfl rfl ?_
    refine mw_bipush (pc' := 18) (v := 32) dX8_mostBehind_16 rfl (by decide) ?_
    refine mw_imul (pc' := 19) dX8_mostBehind_18 rfl ?_
    refine mw_iload_n (pc' := 20) dX8_mostBehind_19 rfl rfl ?_
    refine mw_iadd (pc' := 21) dX8_mostBehind_20 rfl ?_
    obtain ⟨o1, K⟩ := K
    refine mw_ialdL (pc' := 22) dX8_mostBehind_21 rfl (skT_46 hS) (skL_46 hS) o1 ?_
    refine mw_mmax (pc' := 25) dX8_mostBehind_22 rfl lkX8_99 (Nat.le_of_ble_eq_true rfl) ?_
    refine mw_istore_n (pc' := 26) dX8_mostBehind_25 rfl (by decide) ?_
    show mW _ _ _ _ _ [some (.inr (some 41)), some (.inl v1), some (.inl (f_max v2 (mI h 46 ((v1 * 32) + v3).toNatClampNeg))), some (.inl v3)] _ _ _
    refine mw_iinc (pc' := 29) (v := v3 + 1) dX8_mostBehind_26 rfl (by decide) rfl rfl ?_
    show mW _ _ _ _ _ [some (.inr (some 41)), some (.inl v1), some (.inl (f_max v2 (mI h 46 ((v1 * 32) + v3).toNatClampNeg))), some (.inl (v3 + 1))] _ _ _
    refine mw_goto (tgt := 4) dX8_mostBehind_29 (by decide) ?_
    exact K

set_option maxRecDepth 100000 in
set_option maxHeartbeats 4000000 in
theorem qX8_tallyPairs {G : mG} {d : Nat} {b : Nat × Nat} {h : mH} {Q : Option mV → mH → Prop} (a1 : Nat) (v2 : Int32) (v3 : Int32) (v4 : Int32) (ta1 : mT h a1 = 2) (hS : mSk h)
    (K : vp_in v3 6 ∧ mC G kX1_sweep (d + 2) (0, 0) [.inr (some a1), .inl (mI h 44 v3.toNatClampNeg)] h (fun r h2 => r = none ∧ mSk h2 ∧ mT h2 a1 = 2 ∧ vp_in v4 6 ∧ mC G kX1_sweep (d + 2) (0, 0) [.inr (some a1), .inl (mI h2 44 v4.toNatClampNeg)] h2 (fun r h4 => r = none ∧ mSk h4 ∧ mT h4 a1 = 2 ∧ mW G kX8_tallyPairs (d + 3) b 24 [some (.inr (some 41)), some (.inr (some a1)), some (.inl v2), some (.inl v3), some (.inl v4), some (.inl 0), none, none, none, none, none, none, none] [] h4 Q))) : mC G kX8_tallyPairs (d + 3) b [.inr (some 41), .inr (some a1), .inl v2, .inl v3, .inl v4] h Q := by
  refine mC_in rfl (Nat.le_of_ble_eq_true rfl) ?_
  show mW _ _ _ _ _ [some (.inr (some 41)), some (.inr (some a1)), some (.inl v2), some (.inl v3), some (.inl v4), none, none, none, none, none, none, none, none] _ _ _
  refine mw_aload_n (pc' := 1) dX8_tallyPairs_0 rfl rfl ?_
  refine mw_aload_n (pc' := 2) dX8_tallyPairs_1 rfl rfl ?_
  refine mw_getR (pc' := 5) dX8_tallyPairs_2 rfl flX8_18 rfl (skT_41 hS) ?_
  rw [skR_41_2 hS]
  refine mw_iload_n (pc' := 6) dX8_tallyPairs_5 rfl rfl ?_
  obtain ⟨o1, K⟩ := K
  refine mw_ialdL (pc' := 7) dX8_tallyPairs_6 rfl (skT_44 hS) (skL_44 hS) o1 ?_
  refine mw_callV (pc' := 10) (b' := (0, 0)) (b1 := b) (av := [.inl (mI h 44 v3.toNatClampNeg)]) (rest := []) dX8_tallyPairs_7 rfl lkX8_91 rfl rfl (Nat.le_of_ble_eq_true rfl) ⟨Nat.le_of_eq (Nat.zero_add _), Nat.le_of_eq (Nat.zero_add _)⟩ (ta1) ?_
  refine mC_mono (fun r h2 hr => ?_) K
  obtain ⟨rfl, hS, ta1, K⟩ := hr
  show mW _ _ _ _ _ _ [] _ _
  refine mw_aload_n (pc' := 11) dX8_tallyPairs_10 rfl rfl ?_
  refine mw_aload_n (pc' := 12) dX8_tallyPairs_11 rfl rfl ?_
  refine mw_getR (pc' := 15) dX8_tallyPairs_12 rfl flX8_18 rfl (skT_41 hS) ?_
  rw [skR_41_2 hS]
  refine mw_iload (pc' := 17) dX8_tallyPairs_15 rfl rfl ?_
  obtain ⟨o3, K⟩ := K
  refine mw_ialdL (pc' := 18) dX8_tallyPairs_17 rfl (skT_44 hS) (skL_44 hS) o3 ?_
  refine mw_callV (pc' := 21) (b' := (0, 0)) (b1 := b) (av := [.inl (mI h2 44 v4.toNatClampNeg)]) (rest := []) dX8_tallyPairs_18 rfl lkX8_91 rfl rfl (Nat.le_of_ble_eq_true rfl) ⟨Nat.le_of_eq (Nat.zero_add _), Nat.le_of_eq (Nat.zero_add _)⟩ (ta1) ?_
  refine mC_mono (fun r h4 hr => ?_) K
  obtain ⟨rfl, hS, ta1, K⟩ := hr
  show mW _ _ _ _ _ _ [] _ _
  refine mw_iconst (pc' := 22) (v := 0) dX8_tallyPairs_21 rfl (by decide) ?_
  refine mw_istore (pc' := 24) dX8_tallyPairs_22 rfl (by decide) ?_
  show mW _ _ _ _ _ [some (.inr (some 41)), some (.inr (some a1)), some (.inl v2), some (.inl v3), some (.inl v4), some (.inl 0), none, none, none, none, none, none, none] _ _ _
  exact K

set_option maxRecDepth 100000 in
set_option maxHeartbeats 4000000 in
theorem qX8_tallyPairs_24 {G : mG} {d : Nat} {b : Nat × Nat} {h : mH} {Q : Option mV → mH → Prop} (a1 : Nat) (v2 : Int32) (v3 : Int32) (v4 : Int32) (v5 : Int32) (ta1 : mT h a1 = 2) (hS : mSk h)
    (K : ((32 ≤ v5 → Q none h) ∧ (¬ (32 ≤ v5) → vp_in v3 6 ∧ vp_in v4 6 ∧ (((f_X11_within (v5 + (mI h 43 v3.toNatClampNeg)) 0 31) = 0 → mW G kX8_tallyPairs (d + 3) b 24 [some (.inr (some 41)), some (.inr (some a1)), some (.inl v2), some (.inl v3), some (.inl v4), some (.inl (v5 + 1)), none, none, none, none, none, none, none] [] h Q) ∧ (¬ (f_X11_within (v5 + (mI h 43 v3.toNatClampNeg)) 0 31) = 0 → (((f_X11_within ((v5 + (mI h 43 v3.toNatClampNeg)) + (mI h 43 v4.toNatClampNeg)) 0 31) = 0 → mW G kX8_tallyPairs (d + 3) b 24 [some (.inr (some 41)), some (.inr (some a1)), some (.inl v2), some (.inl v3), some (.inl v4), some (.inl (v5 + 1)), none, none, none, none, none, none, none] [] h Q) ∧ (¬ (f_X11_within ((v5 + (mI h 43 v3.toNatClampNeg)) + (mI h 43 v4.toNatClampNeg)) 0 31) = 0 → vp_in (v2 + v5) 1536 ∧ vp_in v3 6 ∧ vp_in (v5 + (mI h 43 v3.toNatClampNeg)) 32 ∧ vp_in v4 6 ∧ vp_in ((v5 + (mI h 43 v3.toNatClampNeg)) + (mI h 43 v4.toNatClampNeg)) 32 ∧ vp_in v3 6 ∧ vp_in v4 6 ∧ vp_in v4 6 ∧ mW G kX8_tallyPairs (d + 3) b 178 [some (.inr (some 41)), some (.inr (some a1)), some (.inl v2), some (.inl v3), some (.inl v4), some (.inl v5), none, none, some (.inl ((f_X11_moved ((f_X11_moved (mI h (a1 + 5) (v2 + v5).toNatClampNeg) (mI h 42 v3.toNatClampNeg)) &&& (m_not (mI h (a1 + 1) (v5 + (mI h 43 v3.toNatClampNeg)).toNatClampNeg))) (mI h 42 v4.toNatClampNeg)) &&& (m_not (mI h (a1 + 1) ((v5 + (mI h 43 v3.toNatClampNeg)) + (mI h 43 v4.toNatClampNeg)).toNatClampNeg)))), some (.inl ((((mI h 44 v3.toNatClampNeg) * 1024) + ((v5 + (mI h 43 v3.toNatClampNeg)) * 32)) - (mI h 42 v4.toNatClampNeg))), some (.inl (((mI h 44 v4.toNatClampNeg) * 1024) + (((v5 + (mI h 43 v3.toNatClampNeg)) + (mI h 43 v4.toNatClampNeg)) * 32))), some (.inl 0), none] [] h Q))))))) : mW G kX8_tallyPairs (d + 3) b 24 [some (.inr (some 41)), some (.inr (some a1)), some (.inl v2), some (.inl v3), some (.inl v4), some (.inl v5), none, none, none, none, none, none, none] [] h Q := by
  refine mw_iload (pc' := 26) dX8_tallyPairs_24 rfl rfl ?_
  refine mw_bipush (pc' := 28) (v := 32) dX8_tallyPairs_26 rfl (by decide) ?_
  refine mw_icmp_ge (pc' := 31) (tgt := 242) dX8_tallyPairs_28 rfl (by decide) (fun c13 => ?_) (fun c13 => ?_)
  · replace K := K.1 c13
    exact mw_ret dX8_tallyPairs_242 rfl K
  · replace K := K.2 c13
    refine mw_iload (pc' := 33) dX8_tallyPairs_31 rfl rfl ?_
    refine mw_aload_n (pc' := 34) dX8_tallyPairs_33 rfl rfl ?_
    refine mw_getR (pc' := 37) dX8_tallyPairs_34 rfl flX8_15 rfl (skT_41 hS) ?_
    rw [skR_41_1 hS]
    refine mw_iload_n (pc' := 38) dX8_tallyPairs_37 rfl rfl ?_
    obtain ⟨o1, K⟩ := K
    refine mw_ialdL (pc' := 39) dX8_tallyPairs_38 rfl (skT_43 hS) (skL_43 hS) o1 ?_
    refine mw_iadd (pc' := 40) dX8_tallyPairs_39 rfl ?_
    refine mw_istore (pc' := 42) dX8_tallyPairs_40 rfl (by decide) ?_
    show mW _ _ _ _ _ [some (.inr (some 41)), some (.inr (some a1)), some (.inl v2), some (.inl v3), some (.inl v4), some (.inl v5), some (.inl (v5 + (mI h 43 v3.toNatClampNeg))), none, none, none, none, none, none] _ _ _
    refine mw_iload (pc' := 44) dX8_tallyPairs_42 rfl rfl ?_
    refine mw_aload_n (pc' := 45) dX8_tallyPairs_44 rfl rfl ?_
    refine mw_getR (pc' := 48) dX8_tallyPairs_45 rfl flX8_15 rfl (skT_41 hS) ?_
    rw [skR_41_1 hS]
    refine mw_iload (pc' := 50) dX8_tallyPairs_48 rfl rfl ?_
    obtain ⟨o2, K⟩ := K
    refine mw_ialdL (pc' := 51) dX8_tallyPairs_50 rfl (skT_43 hS) (skL_43 hS) o2 ?_
    refine mw_iadd (pc' := 52) dX8_tallyPairs_51 rfl ?_
    refine mw_istore (pc' := 54) dX8_tallyPairs_52 rfl (by decide) ?_
    show mW _ _ _ _ _ [some (.inr (some 41)), some (.inr (some a1)), some (.inl v2), some (.inl v3), some (.inl v4), some (.inl v5), some (.inl (v5 + (mI h 43 v3.toNatClampNeg))), some (.inl ((v5 + (mI h 43 v3.toNatClampNeg)) + (mI h 43 v4.toNatClampNeg))), none, none, none, none, none] _ _ _
    refine mw_iload (pc' := 56) dX8_tallyPairs_54 rfl rfl ?_
    refine mw_iconst (pc' := 57) (v := 0) dX8_tallyPairs_56 rfl (by decide) ?_
    refine mw_bipush (pc' := 59) (v := 31) dX8_tallyPairs_57 rfl (by decide) ?_
    refine mw_callS (pc' := 62) (b' := (0, 0)) (b1 := b) (av := [.inl (v5 + (mI h 43 v3.toNatClampNeg)), .inl 0, .inl 31]) (rest := []) dX8_tallyPairs_59 rfl lkX8_147 rfl rfl (Nat.le_of_ble_eq_true rfl) ⟨Nat.le_of_eq (Nat.zero_add _), Nat.le_of_eq (Nat.zero_add _)⟩ ?_
    refine pX11_within ?_
    refine mw_if_eq (pc' := 65) (tgt := 236) dX8_tallyPairs_62 rfl (by decide) (fun c12 => ?_) (fun c12 => ?_)
    · replace K := K.1 c12
      refine mw_iinc (pc' := 239) (v := v5 + 1) dX8_tallyPairs_236 rfl (by decide) rfl rfl ?_
      show mW _ _ _ _ _ [some (.inr (some 41)), some (.inr (some a1)), some (.inl v2), some (.inl v3), some (.inl v4), some (.inl (v5 + 1)), some (.inl (v5 + (mI h 43 v3.toNatClampNeg))), some (.inl ((v5 + (mI h 43 v3.toNatClampNeg)) + (mI h 43 v4.toNatClampNeg))), none, none, none, none, none] _ _ _
      refine mw_goto (tgt := 24) dX8_tallyPairs_239 (by decide) ?_
      refine mw_weak (ls' := [some (.inr (some 41)), some (.inr (some a1)), some (.inl v2), some (.inl v3), some (.inl v4), some (.inl (v5 + 1)), none, none, none, none, none, none, none]) ?_ ?_
      · intro i v hv; match i, hv with
        | 0, hv => exact hv
        | 1, hv => exact hv
        | 2, hv => exact hv
        | 3, hv => exact hv
        | 4, hv => exact hv
        | 5, hv => exact hv
        | 6, hv => cases hv
        | 7, hv => cases hv
        | 8, hv => cases hv
        | 9, hv => cases hv
        | 10, hv => cases hv
        | 11, hv => cases hv
        | 12, hv => cases hv
        | n + 13, hv => cases hv
      exact K
    · replace K := K.2 c12
      refine mw_iload (pc' := 67) dX8_tallyPairs_65 rfl rfl ?_
      refine mw_iconst (pc' := 68) (v := 0) dX8_tallyPairs_67 rfl (by decide) ?_
      refine mw_bipush (pc' := 70) (v := 31) dX8_tallyPairs_68 rfl (by decide) ?_
      refine mw_callS (pc' := 73) (b' := (0, 0)) (b1 := b) (av := [.inl ((v5 + (mI h 43 v3.toNatClampNeg)) + (mI h 43 v4.toNatClampNeg)), .inl 0, .inl 31]) (rest := []) dX8_tallyPairs_70 rfl lkX8_147 rfl rfl (Nat.le_of_ble_eq_true rfl) ⟨Nat.le_of_eq (Nat.zero_add _), Nat.le_of_eq (Nat.zero_add _)⟩ ?_
      refine pX11_within ?_
      refine mw_if_eq (pc' := 76) (tgt := 236) dX8_tallyPairs_73 rfl (by decide) (fun c11 => ?_) (fun c11 => ?_)
      · replace K := K.1 c11
        refine mw_iinc (pc' := 239) (v := v5 + 1) dX8_tallyPairs_236 rfl (by decide) rfl rfl ?_
        show mW _ _ _ _ _ [some (.inr (some 41)), some (.inr (some a1)), some (.inl v2), some (.inl v3), some (.inl v4), some (.inl (v5 + 1)), some (.inl (v5 + (mI h 43 v3.toNatClampNeg))), some (.inl ((v5 + (mI h 43 v3.toNatClampNeg)) + (mI h 43 v4.toNatClampNeg))), none, none, none, none, none] _ _ _
        refine mw_goto (tgt := 24) dX8_tallyPairs_239 (by decide) ?_
        refine mw_weak (ls' := [some (.inr (some 41)), some (.inr (some a1)), some (.inl v2), some (.inl v3), some (.inl v4), some (.inl (v5 + 1)), none, none, none, none, none, none, none]) ?_ ?_
        · intro i v hv; match i, hv with
          | 0, hv => exact hv
          | 1, hv => exact hv
          | 2, hv => exact hv
          | 3, hv => exact hv
          | 4, hv => exact hv
          | 5, hv => exact hv
          | 6, hv => cases hv
          | 7, hv => cases hv
          | 8, hv => cases hv
          | 9, hv => cases hv
          | 10, hv => cases hv
          | 11, hv => cases hv
          | 12, hv => cases hv
          | n + 13, hv => cases hv
        exact K
      · replace K := K.2 c11
        refine mw_aload_n (pc' := 77) dX8_tallyPairs_76 rfl rfl ?_
        refine mw_getR (pc' := 80) dX8_tallyPairs_77 rfl flX8_43 rfl (ta1) ?_
        rw [skBR_1_9 hS ta1]
        refine mw_iload_n (pc' := 81) dX8_tallyPairs_80 rfl rfl ?_
        refine mw_iload (pc' := 83) dX8_tallyPairs_81 rfl rfl ?_
        refine mw_iadd (pc' := 84) dX8_tallyPairs_83 rfl ?_
        obtain ⟨o3, K⟩ := K
        refine mw_ialdL (pc' := 85) dX8_tallyPairs_84 rfl (skBT_1_5 hS ta1) (skBL_1_5 hS ta1) o3 ?_
        refine mw_aload_n (pc' := 86) dX8_tallyPairs_85 rfl rfl ?_
        refine mw_getR (pc' := 89) dX8_tallyPairs_86 rfl flX8_9 rfl (skT_41 hS) ?_
        rw [skR_41_0 hS]
        refine mw_iload_n (pc' := 90) dX8_tallyPairs_89 rfl rfl ?_
        obtain ⟨o4, K⟩ := K
        refine mw_ialdL (pc' := 91) dX8_tallyPairs_90 rfl (skT_42 hS) (skL_42 hS) o4 ?_
        refine mw_callS (pc' := 94) (b' := (0, 0)) (b1 := b) (av := [.inl (mI h (a1 + 5) (v2 + v5).toNatClampNeg), .inl (mI h 42 v3.toNatClampNeg)]) (rest := []) dX8_tallyPairs_91 rfl lkX8_102 rfl rfl (Nat.le_of_ble_eq_true rfl) ⟨Nat.le_of_eq (Nat.zero_add _), Nat.le_of_eq (Nat.zero_add _)⟩ ?_
        refine pX11_moved ?_
        refine mw_aload_n (pc' := 95) dX8_tallyPairs_94 rfl rfl ?_
        refine mw_getR (pc' := 98) dX8_tallyPairs_95 rfl flX8_105 rfl (ta1) ?_
        rw [skBR_1_5 hS ta1]
        refine mw_iload (pc' := 100) dX8_tallyPairs_98 rfl rfl ?_
        obtain ⟨o5, K⟩ := K
        refine mw_ialdL (pc' := 101) dX8_tallyPairs_100 rfl (skBT_1_1 hS ta1) (skBL_1_1 hS ta1) o5 ?_
        refine mw_iconst (pc' := 102) (v := (-1)) dX8_tallyPairs_101 rfl (by decide) ?_
        refine mw_ixorM (pc' := 103) dX8_tallyPairs_102 rfl ?_
        refine mw_iand (pc' := 104) dX8_tallyPairs_103 rfl ?_
        refine mw_istore (pc' := 106) dX8_tallyPairs_104 rfl (by decide) ?_
        show mW _ _ _ _ _ [some (.inr (some 41)), some (.inr (some a1)), some (.inl v2), some (.inl v3), some (.inl v4), some (.inl v5), some (.inl (v5 + (mI h 43 v3.toNatClampNeg))), some (.inl ((v5 + (mI h 43 v3.toNatClampNeg)) + (mI h 43 v4.toNatClampNeg))), some (.inl ((f_X11_moved (mI h (a1 + 5) (v2 + v5).toNatClampNeg) (mI h 42 v3.toNatClampNeg)) &&& (m_not (mI h (a1 + 1) (v5 + (mI h 43 v3.toNatClampNeg)).toNatClampNeg)))), none, none, none, none] _ _ _
        refine mw_iload (pc' := 108) dX8_tallyPairs_106 rfl rfl ?_
        refine mw_aload_n (pc' := 109) dX8_tallyPairs_108 rfl rfl ?_
        refine mw_getR (pc' := 112) dX8_tallyPairs_109 rfl flX8_9 rfl (skT_41 hS) ?_
        rw [skR_41_0 hS]
        refine mw_iload (pc' := 114) dX8_tallyPairs_112 rfl rfl ?_
        obtain ⟨o6, K⟩ := K
        refine mw_ialdL (pc' := 115) dX8_tallyPairs_114 rfl (skT_42 hS) (skL_42 hS) o6 ?_
        refine mw_callS (pc' := 118) (b' := (0, 0)) (b1 := b) (av := [.inl ((f_X11_moved (mI h (a1 + 5) (v2 + v5).toNatClampNeg) (mI h 42 v3.toNatClampNeg)) &&& (m_not (mI h (a1 + 1) (v5 + (mI h 43 v3.toNatClampNeg)).toNatClampNeg))), .inl (mI h 42 v4.toNatClampNeg)]) (rest := []) dX8_tallyPairs_115 rfl lkX8_102 rfl rfl (Nat.le_of_ble_eq_true rfl) ⟨Nat.le_of_eq (Nat.zero_add _), Nat.le_of_eq (Nat.zero_add _)⟩ ?_
        refine pX11_moved ?_
        refine mw_aload_n (pc' := 119) dX8_tallyPairs_118 rfl rfl ?_
        refine mw_getR (pc' := 122) dX8_tallyPairs_119 rfl flX8_105 rfl (ta1) ?_
        rw [skBR_1_5 hS ta1]
        refine mw_iload (pc' := 124) dX8_tallyPairs_122 rfl rfl ?_
        obtain ⟨o7, K⟩ := K
        refine mw_ialdL (pc' := 125) dX8_tallyPairs_124 rfl (skBT_1_1 hS ta1) (skBL_1_1 hS ta1) o7 ?_
        refine mw_iconst (pc' := 126) (v := (-1)) dX8_tallyPairs_125 rfl (by decide) ?_
        refine mw_ixorM (pc' := 127) dX8_tallyPairs_126 rfl ?_
        refine mw_iand (pc' := 128) dX8_tallyPairs_127 rfl ?_
        refine mw_istore (pc' := 130) dX8_tallyPairs_128 rfl (by decide) ?_
        show mW _ _ _ _ _ [some (.inr (some 41)), some (.inr (some a1)), some (.inl v2), some (.inl v3), some (.inl v4), some (.inl v5), some (.inl (v5 + (mI h 43 v3.toNatClampNeg))), some (.inl ((v5 + (mI h 43 v3.toNatClampNeg)) + (mI h 43 v4.toNatClampNeg))), some (.inl ((f_X11_moved ((f_X11_moved (mI h (a1 + 5) (v2 + v5).toNatClampNeg) (mI h 42 v3.toNatClampNeg)) &&& (m_not (mI h (a1 + 1) (v5 + (mI h 43 v3.toNatClampNeg)).toNatClampNeg))) (mI h 42 v4.toNatClampNeg)) &&& (m_not (mI h (a1 + 1) ((v5 + (mI h 43 v3.toNatClampNeg)) + (mI h 43 v4.toNatClampNeg)).toNatClampNeg)))), none, none, none, none] _ _ _
        refine mw_aload_n (pc' := 131) dX8_tallyPairs_130 rfl rfl ?_
        refine mw_getR (pc' := 134) dX8_tallyPairs_131 rfl flX8_18 rfl (skT_41 hS) ?_
        rw [skR_41_2 hS]
        refine mw_iload_n (pc' := 135) dX8_tallyPairs_134 rfl rfl ?_
        obtain ⟨o8, K⟩ := K
        refine mw_ialdL (pc' := 136) dX8_tallyPairs_135 rfl (skT_44 hS) (skL_44 hS) o8 ?_
        refine mw_sipush (pc' := 139) (v := 1024) dX8_tallyPairs_136 rfl (by decide) ?_
        refine mw_imul (pc' := 140) dX8_tallyPairs_139 rfl ?_
        refine mw_iload (pc' := 142) dX8_tallyPairs_140 rfl rfl ?_
        refine mw_bipush (pc' := 144) (v := 32) dX8_tallyPairs_142 rfl (by decide) ?_
        refine mw_imul (pc' := 145) dX8_tallyPairs_144 rfl ?_
        refine mw_iadd (pc' := 146) dX8_tallyPairs_145 rfl ?_
        refine mw_aload_n (pc' := 147) dX8_tallyPairs_146 rfl rfl ?_
        refine mw_getR (pc' := 150) dX8_tallyPairs_147 rfl flX8_9 rfl (skT_41 hS) ?_
        rw [skR_41_0 hS]
        refine mw_iload (pc' := 152) dX8_tallyPairs_150 rfl rfl ?_
        obtain ⟨o9, K⟩ := K
        refine mw_ialdL (pc' := 153) dX8_tallyPairs_152 rfl (skT_42 hS) (skL_42 hS) o9 ?_
        refine mw_isub (pc' := 154) dX8_tallyPairs_153 rfl ?_
        refine mw_istore (pc' := 156) dX8_tallyPairs_154 rfl (by decide) ?_
        show mW _ _ _ _ _ [some (.inr (some 41)), some (.inr (some a1)), some (.inl v2), some (.inl v3), some (.inl v4), some (.inl v5), some (.inl (v5 + (mI h 43 v3.toNatClampNeg))), some (.inl ((v5 + (mI h 43 v3.toNatClampNeg)) + (mI h 43 v4.toNatClampNeg))), some (.inl ((f_X11_moved ((f_X11_moved (mI h (a1 + 5) (v2 + v5).toNatClampNeg) (mI h 42 v3.toNatClampNeg)) &&& (m_not (mI h (a1 + 1) (v5 + (mI h 43 v3.toNatClampNeg)).toNatClampNeg))) (mI h 42 v4.toNatClampNeg)) &&& (m_not (mI h (a1 + 1) ((v5 + (mI h 43 v3.toNatClampNeg)) + (mI h 43 v4.toNatClampNeg)).toNatClampNeg)))), some (.inl ((((mI h 44 v3.toNatClampNeg) * 1024) + ((v5 + (mI h 43 v3.toNatClampNeg)) * 32)) - (mI h 42 v4.toNatClampNeg))), none, none, none] _ _ _
        refine mw_aload_n (pc' := 157) dX8_tallyPairs_156 rfl rfl ?_
        refine mw_getR (pc' := 160) dX8_tallyPairs_157 rfl flX8_18 rfl (skT_41 hS) ?_
        rw [skR_41_2 hS]
        refine mw_iload (pc' := 162) dX8_tallyPairs_160 rfl rfl ?_
        obtain ⟨o10, K⟩ := K
        refine mw_ialdL (pc' := 163) dX8_tallyPairs_162 rfl (skT_44 hS) (skL_44 hS) o10 ?_
        refine mw_sipush (pc' := 166) (v := 1024) dX8_tallyPairs_163 rfl (by decide) ?_
        refine mw_imul (pc' := 167) dX8_tallyPairs_166 rfl ?_
        refine mw_iload (pc' := 169) dX8_tallyPairs_167 rfl rfl ?_
        refine mw_bipush (pc' := 171) (v := 32) dX8_tallyPairs_169 rfl (by decide) ?_
        refine mw_imul (pc' := 172) dX8_tallyPairs_171 rfl ?_
        refine mw_iadd (pc' := 173) dX8_tallyPairs_172 rfl ?_
        refine mw_istore (pc' := 175) dX8_tallyPairs_173 rfl (by decide) ?_
        show mW _ _ _ _ _ [some (.inr (some 41)), some (.inr (some a1)), some (.inl v2), some (.inl v3), some (.inl v4), some (.inl v5), some (.inl (v5 + (mI h 43 v3.toNatClampNeg))), some (.inl ((v5 + (mI h 43 v3.toNatClampNeg)) + (mI h 43 v4.toNatClampNeg))), some (.inl ((f_X11_moved ((f_X11_moved (mI h (a1 + 5) (v2 + v5).toNatClampNeg) (mI h 42 v3.toNatClampNeg)) &&& (m_not (mI h (a1 + 1) (v5 + (mI h 43 v3.toNatClampNeg)).toNatClampNeg))) (mI h 42 v4.toNatClampNeg)) &&& (m_not (mI h (a1 + 1) ((v5 + (mI h 43 v3.toNatClampNeg)) + (mI h 43 v4.toNatClampNeg)).toNatClampNeg)))), some (.inl ((((mI h 44 v3.toNatClampNeg) * 1024) + ((v5 + (mI h 43 v3.toNatClampNeg)) * 32)) - (mI h 42 v4.toNatClampNeg))), some (.inl (((mI h 44 v4.toNatClampNeg) * 1024) + (((v5 + (mI h 43 v3.toNatClampNeg)) + (mI h 43 v4.toNatClampNeg)) * 32))), none, none] _ _ _
        refine mw_iconst (pc' := 176) (v := 0) dX8_tallyPairs_175 rfl (by decide) ?_
        refine mw_istore (pc' := 178) dX8_tallyPairs_176 rfl (by decide) ?_
        show mW _ _ _ _ _ [some (.inr (some 41)), some (.inr (some a1)), some (.inl v2), some (.inl v3), some (.inl v4), some (.inl v5), some (.inl (v5 + (mI h 43 v3.toNatClampNeg))), some (.inl ((v5 + (mI h 43 v3.toNatClampNeg)) + (mI h 43 v4.toNatClampNeg))), some (.inl ((f_X11_moved ((f_X11_moved (mI h (a1 + 5) (v2 + v5).toNatClampNeg) (mI h 42 v3.toNatClampNeg)) &&& (m_not (mI h (a1 + 1) (v5 + (mI h 43 v3.toNatClampNeg)).toNatClampNeg))) (mI h 42 v4.toNatClampNeg)) &&& (m_not (mI h (a1 + 1) ((v5 + (mI h 43 v3.toNatClampNeg)) + (mI h 43 v4.toNatClampNeg)).toNatClampNeg)))), some (.inl ((((mI h 44 v3.toNatClampNeg) * 1024) + ((v5 + (mI h 43 v3.toNatClampNeg)) * 32)) - (mI h 42 v4.toNatClampNeg))), some (.inl (((mI h 44 v4.toNatClampNeg) * 1024) + (((v5 + (mI h 43 v3.toNatClampNeg)) + (mI h 43 v4.toNatClampNeg)) * 32))), some (.inl 0), none] _ _ _
        refine mw_weak (ls' := [some (.inr (some 41)), some (.inr (some a1)), some (.inl v2), some (.inl v3), some (.inl v4), some (.inl v5), none, none, some (.inl ((f_X11_moved ((f_X11_moved (mI h (a1 + 5) (v2 + v5).toNatClampNeg) (mI h 42 v3.toNatClampNeg)) &&& (m_not (mI h (a1 + 1) (v5 + (mI h 43 v3.toNatClampNeg)).toNatClampNeg))) (mI h 42 v4.toNatClampNeg)) &&& (m_not (mI h (a1 + 1) ((v5 + (mI h 43 v3.toNatClampNeg)) + (mI h 43 v4.toNatClampNeg)).toNatClampNeg)))), some (.inl ((((mI h 44 v3.toNatClampNeg) * 1024) + ((v5 + (mI h 43 v3.toNatClampNeg)) * 32)) - (mI h 42 v4.toNatClampNeg))), some (.inl (((mI h 44 v4.toNatClampNeg) * 1024) + (((v5 + (mI h 43 v3.toNatClampNeg)) + (mI h 43 v4.toNatClampNeg)) * 32))), some (.inl 0), none]) ?_ ?_
        · intro i v hv; match i, hv with
          | 0, hv => exact hv
          | 1, hv => exact hv
          | 2, hv => exact hv
          | 3, hv => exact hv
          | 4, hv => exact hv
          | 5, hv => exact hv
          | 6, hv => cases hv
          | 7, hv => cases hv
          | 8, hv => exact hv
          | 9, hv => exact hv
          | 10, hv => exact hv
          | 11, hv => exact hv
          | 12, hv => cases hv
          | n + 13, hv => cases hv
        exact K

set_option maxRecDepth 100000 in
set_option maxHeartbeats 4000000 in
theorem qX8_tallyPairs_178 {G : mG} {d : Nat} {b : Nat × Nat} {h : mH} {Q : Option mV → mH → Prop} (a1 : Nat) (v2 : Int32) (v3 : Int32) (v4 : Int32) (v5 : Int32) (v8 : Int32) (v9 : Int32) (v10 : Int32) (v11 : Int32) (ta1 : mT h a1 = 2) (hS : mSk h)
    (K : ((v8 = 0 → mW G kX8_tallyPairs (d + 3) b 24 [some (.inr (some 41)), some (.inr (some a1)), some (.inl v2), some (.inl v3), some (.inl v4), some (.inl (v5 + 1)), none, none, none, none, none, none, none] [] h Q) ∧ (¬ v8 = 0 → ((32 ≤ v11 → mW G kX8_tallyPairs (d + 3) b 24 [some (.inr (some 41)), some (.inr (some a1)), some (.inl v2), some (.inl v3), some (.inl v4), some (.inl (v5 + 1)), none, none, none, none, none, none, none] [] h Q) ∧ (¬ (32 ≤ v11) → vp_in (v9 + (f_X11_lowestBit v8)) 4096 ∧ vp_in (v10 + (f_X11_lowestBit v8)) 4096 ∧ mC G kX8_addPairs (d + 2) (0, 0) [.inr (some 41), .inl (mI h (a1 + 3) (v9 + (f_X11_lowestBit v8)).toNatClampNeg), .inl (mI h (a1 + 3) (v10 + (f_X11_lowestBit v8)).toNatClampNeg)] h (fun r h3 => r = none ∧ mSk h3 ∧ mT h3 a1 = 2 ∧ mW G kX8_tallyPairs (d + 3) b 178 [some (.inr (some 41)), some (.inr (some a1)), some (.inl v2), some (.inl v3), some (.inl v4), some (.inl v5), none, none, some (.inl (v8 &&& (v8 - 1))), some (.inl v9), some (.inl v10), some (.inl (v11 + 1)), none] [] h3 Q)))))) : mW G kX8_tallyPairs (d + 3) b 178 [some (.inr (some 41)), some (.inr (some a1)), some (.inl v2), some (.inl v3), some (.inl v4), some (.inl v5), none, none, some (.inl v8), some (.inl v9), some (.inl v10), some (.inl v11), none] [] h Q := by
  refine mw_iload (pc' := 180) dX8_tallyPairs_178 rfl rfl ?_
  refine mw_if_eq (pc' := 183) (tgt := 236) dX8_tallyPairs_180 rfl (by decide) (fun c5 => ?_) (fun c5 => ?_)
  · replace K := K.1 c5
    refine mw_iinc (pc' := 239) (v := v5 + 1) dX8_tallyPairs_236 rfl (by decide) rfl rfl ?_
    show mW _ _ _ _ _ [some (.inr (some 41)), some (.inr (some a1)), some (.inl v2), some (.inl v3), some (.inl v4), some (.inl (v5 + 1)), none, none, some (.inl v8), some (.inl v9), some (.inl v10), some (.inl v11), none] _ _ _
    refine mw_goto (tgt := 24) dX8_tallyPairs_239 (by decide) ?_
    refine mw_weak (ls' := [some (.inr (some 41)), some (.inr (some a1)), some (.inl v2), some (.inl v3), some (.inl v4), some (.inl (v5 + 1)), none, none, none, none, none, none, none]) ?_ ?_
    · intro i v hv; match i, hv with
      | 0, hv => exact hv
      | 1, hv => exact hv
      | 2, hv => exact hv
      | 3, hv => exact hv
      | 4, hv => exact hv
      | 5, hv => exact hv
      | 6, hv => cases hv
      | 7, hv => cases hv
      | 8, hv => cases hv
      | 9, hv => cases hv
      | 10, hv => cases hv
      | 11, hv => cases hv
      | 12, hv => cases hv
      | n + 13, hv => cases hv
    exact K
  · replace K := K.2 c5
    refine mw_iload (pc' := 185) dX8_tallyPairs_183 rfl rfl ?_
    refine mw_bipush (pc' := 187) (v := 32) dX8_tallyPairs_185 rfl (by decide) ?_
    refine mw_icmp_ge (pc' := 190) (tgt := 236) dX8_tallyPairs_187 rfl (by decide) (fun c4 => ?_) (fun c4 => ?_)
    · replace K := K.1 c4
      refine mw_iinc (pc' := 239) (v := v5 + 1) dX8_tallyPairs_236 rfl (by decide) rfl rfl ?_
      show mW _ _ _ _ _ [some (.inr (some 41)), some (.inr (some a1)), some (.inl v2), some (.inl v3), some (.inl v4), some (.inl (v5 + 1)), none, none, some (.inl v8), some (.inl v9), some (.inl v10), some (.inl v11), none] _ _ _
      refine mw_goto (tgt := 24) dX8_tallyPairs_239 (by decide) ?_
      refine mw_weak (ls' := [some (.inr (some 41)), some (.inr (some a1)), some (.inl v2), some (.inl v3), some (.inl v4), some (.inl (v5 + 1)), none, none, none, none, none, none, none]) ?_ ?_
      · intro i v hv; match i, hv with
        | 0, hv => exact hv
        | 1, hv => exact hv
        | 2, hv => exact hv
        | 3, hv => exact hv
        | 4, hv => exact hv
        | 5, hv => exact hv
        | 6, hv => cases hv
        | 7, hv => cases hv
        | 8, hv => cases hv
        | 9, hv => cases hv
        | 10, hv => cases hv
        | 11, hv => cases hv
        | 12, hv => cases hv
        | n + 13, hv => cases hv
      exact K
    · replace K := K.2 c4
      refine mw_iload (pc' := 192) dX8_tallyPairs_190 rfl rfl ?_
      refine mw_callS (pc' := 195) (b' := (0, 0)) (b1 := b) (av := [.inl v8]) (rest := []) dX8_tallyPairs_192 rfl lkX8_111 rfl rfl (Nat.le_of_ble_eq_true rfl) ⟨Nat.le_of_eq (Nat.zero_add _), Nat.le_of_eq (Nat.zero_add _)⟩ ?_
      refine pX11_lowestBit ?_
      refine mw_istore (pc' := 197) dX8_tallyPairs_195 rfl (by decide) ?_
      show mW _ _ _ _ _ [some (.inr (some 41)), some (.inr (some a1)), some (.inl v2), some (.inl v3), some (.inl v4), some (.inl v5), none, none, some (.inl v8), some (.inl v9), some (.inl v10), some (.inl v11), some (.inl (f_X11_lowestBit v8))] _ _ _
      refine mw_iload (pc' := 199) dX8_tallyPairs_197 rfl rfl ?_
      refine mw_iload (pc' := 201) dX8_tallyPairs_199 rfl rfl ?_
      refine mw_iconst (pc' := 202) (v := 1) dX8_tallyPairs_201 rfl (by decide) ?_
      refine mw_isub (pc' := 203) dX8_tallyPairs_202 rfl ?_
      refine mw_iand (pc' := 204) dX8_tallyPairs_203 rfl ?_
      refine mw_istore (pc' := 206) dX8_tallyPairs_204 rfl (by decide) ?_
      show mW _ _ _ _ _ [some (.inr (some 41)), some (.inr (some a1)), some (.inl v2), some (.inl v3), some (.inl v4), some (.inl v5), none, none, some (.inl (v8 &&& (v8 - 1))), some (.inl v9), some (.inl v10), some (.inl v11), some (.inl (f_X11_lowestBit v8))] _ _ _
      refine mw_aload_n (pc' := 207) dX8_tallyPairs_206 rfl rfl ?_
      refine mw_aload_n (pc' := 208) dX8_tallyPairs_207 rfl rfl ?_
      refine mw_getR (pc' := 211) dX8_tallyPairs_208 rfl flX8_108 rfl (ta1) ?_
      rw [skBR_1_7 hS ta1]
      refine mw_iload (pc' := 213) dX8_tallyPairs_211 rfl rfl ?_
      refine mw_iload (pc' := 215) dX8_tallyPairs_213 rfl rfl ?_
      refine mw_iadd (pc' := 216) dX8_tallyPairs_215 rfl ?_
      obtain ⟨o1, K⟩ := K
      refine mw_ialdL (pc' := 217) dX8_tallyPairs_216 rfl (skBT_1_3 hS ta1) (skBL_1_3 hS ta1) o1 ?_
      refine mw_aload_n (pc' := 218) dX8_tallyPairs_217 rfl rfl ?_
      refine mw_getR (pc' := 221) dX8_tallyPairs_218 rfl flX8_108 rfl (ta1) ?_
      rw [skBR_1_7 hS ta1]
      refine mw_iload (pc' := 223) dX8_tallyPairs_221 rfl rfl ?_
      refine mw_iload (pc' := 225) dX8_tallyPairs_223 rfl rfl ?_
      refine mw_iadd (pc' := 226) dX8_tallyPairs_225 rfl ?_
      obtain ⟨o2, K⟩ := K
      refine mw_ialdL (pc' := 227) dX8_tallyPairs_226 rfl (skBT_1_3 hS ta1) (skBL_1_3 hS ta1) o2 ?_
      refine mw_callV (pc' := 230) (b' := (0, 0)) (b1 := b) (av := [.inl (mI h (a1 + 3) (v9 + (f_X11_lowestBit v8)).toNatClampNeg), .inl (mI h (a1 + 3) (v10 + (f_X11_lowestBit v8)).toNatClampNeg)]) (rest := []) dX8_tallyPairs_227 rfl lkX8_151 rfl rfl (Nat.le_of_ble_eq_true rfl) ⟨Nat.le_of_eq (Nat.zero_add _), Nat.le_of_eq (Nat.zero_add _)⟩ (skT_41 hS) ?_
      refine mC_mono (fun r h3 hr => ?_) K
      obtain ⟨rfl, hS, ta1, K⟩ := hr
      show mW _ _ _ _ _ _ [] _ _
      refine mw_iinc (pc' := 233) (v := v11 + 1) dX8_tallyPairs_230 rfl (by decide) rfl rfl ?_
      show mW _ _ _ _ _ [some (.inr (some 41)), some (.inr (some a1)), some (.inl v2), some (.inl v3), some (.inl v4), some (.inl v5), none, none, some (.inl (v8 &&& (v8 - 1))), some (.inl v9), some (.inl v10), some (.inl (v11 + 1)), some (.inl (f_X11_lowestBit v8))] _ _ _
      refine mw_goto (tgt := 178) dX8_tallyPairs_233 (by decide) ?_
      refine mw_weak (ls' := [some (.inr (some 41)), some (.inr (some a1)), some (.inl v2), some (.inl v3), some (.inl v4), some (.inl v5), none, none, some (.inl (v8 &&& (v8 - 1))), some (.inl v9), some (.inl v10), some (.inl (v11 + 1)), none]) ?_ ?_
      · intro i v hv; match i, hv with
        | 0, hv => exact hv
        | 1, hv => exact hv
        | 2, hv => exact hv
        | 3, hv => exact hv
        | 4, hv => exact hv
        | 5, hv => exact hv
        | 6, hv => cases hv
        | 7, hv => cases hv
        | 8, hv => exact hv
        | 9, hv => exact hv
        | 10, hv => exact hv
        | 11, hv => exact hv
        | 12, hv => cases hv
        | n + 13, hv => cases hv
      exact K

set_option maxRecDepth 100000 in
set_option maxHeartbeats 4000000 in
theorem qX8_addPairs {G : mG} {d : Nat} {b : Nat × Nat} {h : mH} {Q : Option mV → mH → Prop} (v1 : Int32) (v2 : Int32) (hS : mSk h)
    (K : ((((f_X11_echoSteps v1) * 32) ≤ 0 → ((((f_X11_echoSteps v1) * 32) ≤ 0 → (((f_X11_maybeSilent v1) = 0 → (((f_X11_maybeSilent v1) = 0 → Q none h) ∧ (¬ (f_X11_maybeSilent v1) = 0 → (((f_X11_maybeSilent v2) = 0 → Q none h) ∧ (¬ (f_X11_maybeSilent v2) = 0 → vp_in 0 1024 ∧ vp_in 0 1024 ∧ ∀ h3, h3 = mSI h 46 0 ((mI h 46 0) + 1) → Q none h3))))) ∧ (¬ (f_X11_maybeSilent v1) = 0 → (((f_X11_echoSteps v2) ≤ 0 → (((f_X11_maybeSilent v1) = 0 → Q none h) ∧ (¬ (f_X11_maybeSilent v1) = 0 → (((f_X11_maybeSilent v2) = 0 → Q none h) ∧ (¬ (f_X11_maybeSilent v2) = 0 → vp_in 0 1024 ∧ vp_in 0 1024 ∧ ∀ h8, h8 = mSI h 46 0 ((mI h 46 0) + 1) → Q none h8))))) ∧ (¬ ((f_X11_echoSteps v2) ≤ 0) → vp_in (f_X11_echoSteps v2) 1024 ∧ vp_in (f_X11_echoSteps v2) 1024 ∧ ∀ h13, h13 = mSI h 46 (f_X11_echoSteps v2).toNatClampNeg ((mI h 46 (f_X11_echoSteps v2).toNatClampNeg) + 1) → (((f_X11_maybeSilent v1) = 0 → Q none h13) ∧ (¬ (f_X11_maybeSilent v1) = 0 → (((f_X11_maybeSilent v2) = 0 → Q none h13) ∧ (¬ (f_X11_maybeSilent v2) = 0 → vp_in 0 1024 ∧ vp_in 0 1024 ∧ ∀ h16, h16 = mSI h13 46 0 ((mI h13 46 0) + 1) → Q none h16))))))))) ∧ (¬ (((f_X11_echoSteps v1) * 32) ≤ 0) → (((f_X11_maybeSilent v2) = 0 → (((f_X11_maybeSilent v1) = 0 → (((f_X11_maybeSilent v1) = 0 → Q none h) ∧ (¬ (f_X11_maybeSilent v1) = 0 → (((f_X11_maybeSilent v2) = 0 → Q none h) ∧ (¬ (f_X11_maybeSilent v2) = 0 → vp_in 0 1024 ∧ vp_in 0 1024 ∧ ∀ h23, h23 = mSI h 46 0 ((mI h 46 0) + 1) → Q none h23))))) ∧ (¬ (f_X11_maybeSilent v1) = 0 → (((f_X11_echoSteps v2) ≤ 0 → (((f_X11_maybeSilent v1) = 0 → Q none h) ∧ (¬ (f_X11_maybeSilent v1) = 0 → (((f_X11_maybeSilent v2) = 0 → Q none h) ∧ (¬ (f_X11_maybeSilent v2) = 0 → vp_in 0 1024 ∧ vp_in 0 1024 ∧ ∀ h28, h28 = mSI h 46 0 ((mI h 46 0) + 1) → Q none h28))))) ∧ (¬ ((f_X11_echoSteps v2) ≤ 0) → vp_in (f_X11_echoSteps v2) 1024 ∧ vp_in (f_X11_echoSteps v2) 1024 ∧ ∀ h33, h33 = mSI h 46 (f_X11_echoSteps v2).toNatClampNeg ((mI h 46 (f_X11_echoSteps v2).toNatClampNeg) + 1) → (((f_X11_maybeSilent v1) = 0 → Q none h33) ∧ (¬ (f_X11_maybeSilent v1) = 0 → (((f_X11_maybeSilent v2) = 0 → Q none h33) ∧ (¬ (f_X11_maybeSilent v2) = 0 → vp_in 0 1024 ∧ vp_in 0 1024 ∧ ∀ h36, h36 = mSI h33 46 0 ((mI h33 46 0) + 1) → Q none h36))))))))) ∧ (¬ (f_X11_maybeSilent v2) = 0 → vp_in ((f_X11_echoSteps v1) * 32) 1024 ∧ vp_in ((f_X11_echoSteps v1) * 32) 1024 ∧ ∀ h43, h43 = mSI h 46 ((f_X11_echoSteps v1) * 32).toNatClampNeg ((mI h 46 ((f_X11_echoSteps v1) * 32).toNatClampNeg) + 1) → (((f_X11_maybeSilent v1) = 0 → (((f_X11_maybeSilent v1) = 0 → Q none h43) ∧ (¬ (f_X11_maybeSilent v1) = 0 → (((f_X11_maybeSilent v2) = 0 → Q none h43) ∧ (¬ (f_X11_maybeSilent v2) = 0 → vp_in 0 1024 ∧ vp_in 0 1024 ∧ ∀ h46, h46 = mSI h43 46 0 ((mI h43 46 0) + 1) → Q none h46))))) ∧ (¬ (f_X11_maybeSilent v1) = 0 → (((f_X11_echoSteps v2) ≤ 0 → (((f_X11_maybeSilent v1) = 0 → Q none h43) ∧ (¬ (f_X11_maybeSilent v1) = 0 → (((f_X11_maybeSilent v2) = 0 → Q none h43) ∧ (¬ (f_X11_maybeSilent v2) = 0 → vp_in 0 1024 ∧ vp_in 0 1024 ∧ ∀ h51, h51 = mSI h43 46 0 ((mI h43 46 0) + 1) → Q none h51))))) ∧ (¬ ((f_X11_echoSteps v2) ≤ 0) → vp_in (f_X11_echoSteps v2) 1024 ∧ vp_in (f_X11_echoSteps v2) 1024 ∧ ∀ h56, h56 = mSI h43 46 (f_X11_echoSteps v2).toNatClampNeg ((mI h43 46 (f_X11_echoSteps v2).toNatClampNeg) + 1) → (((f_X11_maybeSilent v1) = 0 → Q none h56) ∧ (¬ (f_X11_maybeSilent v1) = 0 → (((f_X11_maybeSilent v2) = 0 → Q none h56) ∧ (¬ (f_X11_maybeSilent v2) = 0 → vp_in 0 1024 ∧ vp_in 0 1024 ∧ ∀ h59, h59 = mSI h56 46 0 ((mI h56 46 0) + 1) → Q none h59))))))))))))) ∧ (¬ (((f_X11_echoSteps v1) * 32) ≤ 0) → (((f_X11_echoSteps v2) ≤ 0 → ((((f_X11_echoSteps v1) * 32) ≤ 0 → (((f_X11_maybeSilent v1) = 0 → (((f_X11_maybeSilent v1) = 0 → Q none h) ∧ (¬ (f_X11_maybeSilent v1) = 0 → (((f_X11_maybeSilent v2) = 0 → Q none h) ∧ (¬ (f_X11_maybeSilent v2) = 0 → vp_in 0 1024 ∧ vp_in 0 1024 ∧ ∀ h68, h68 = mSI h 46 0 ((mI h 46 0) + 1) → Q none h68))))) ∧ (¬ (f_X11_maybeSilent v1) = 0 → (((f_X11_echoSteps v2) ≤ 0 → (((f_X11_maybeSilent v1) = 0 → Q none h) ∧ (¬ (f_X11_maybeSilent v1) = 0 → (((f_X11_maybeSilent v2) = 0 → Q none h) ∧ (¬ (f_X11_maybeSilent v2) = 0 → vp_in 0 1024 ∧ vp_in 0 1024 ∧ ∀ h73, h73 = mSI h 46 0 ((mI h 46 0) + 1) → Q none h73))))) ∧ (¬ ((f_X11_echoSteps v2) ≤ 0) → vp_in (f_X11_echoSteps v2) 1024 ∧ vp_in (f_X11_echoSteps v2) 1024 ∧ ∀ h78, h78 = mSI h 46 (f_X11_echoSteps v2).toNatClampNeg ((mI h 46 (f_X11_echoSteps v2).toNatClampNeg) + 1) → (((f_X11_maybeSilent v1) = 0 → Q none h78) ∧ (¬ (f_X11_maybeSilent v1) = 0 → (((f_X11_maybeSilent v2) = 0 → Q none h78) ∧ (¬ (f_X11_maybeSilent v2) = 0 → vp_in 0 1024 ∧ vp_in 0 1024 ∧ ∀ h81, h81 = mSI h78 46 0 ((mI h78 46 0) + 1) → Q none h81))))))))) ∧ (¬ (((f_X11_echoSteps v1) * 32) ≤ 0) → (((f_X11_maybeSilent v2) = 0 → (((f_X11_maybeSilent v1) = 0 → (((f_X11_maybeSilent v1) = 0 → Q none h) ∧ (¬ (f_X11_maybeSilent v1) = 0 → (((f_X11_maybeSilent v2) = 0 → Q none h) ∧ (¬ (f_X11_maybeSilent v2) = 0 → vp_in 0 1024 ∧ vp_in 0 1024 ∧ ∀ h88, h88 = mSI h 46 0 ((mI h 46 0) + 1) → Q none h88))))) ∧ (¬ (f_X11_maybeSilent v1) = 0 → (((f_X11_echoSteps v2) ≤ 0 → (((f_X11_maybeSilent v1) = 0 → Q none h) ∧ (¬ (f_X11_maybeSilent v1) = 0 → (((f_X11_maybeSilent v2) = 0 → Q none h) ∧ (¬ (f_X11_maybeSilent v2) = 0 → vp_in 0 1024 ∧ vp_in 0 1024 ∧ ∀ h93, h93 = mSI h 46 0 ((mI h 46 0) + 1) → Q none h93))))) ∧ (¬ ((f_X11_echoSteps v2) ≤ 0) → vp_in (f_X11_echoSteps v2) 1024 ∧ vp_in (f_X11_echoSteps v2) 1024 ∧ ∀ h98, h98 = mSI h 46 (f_X11_echoSteps v2).toNatClampNeg ((mI h 46 (f_X11_echoSteps v2).toNatClampNeg) + 1) → (((f_X11_maybeSilent v1) = 0 → Q none h98) ∧ (¬ (f_X11_maybeSilent v1) = 0 → (((f_X11_maybeSilent v2) = 0 → Q none h98) ∧ (¬ (f_X11_maybeSilent v2) = 0 → vp_in 0 1024 ∧ vp_in 0 1024 ∧ ∀ h101, h101 = mSI h98 46 0 ((mI h98 46 0) + 1) → Q none h101))))))))) ∧ (¬ (f_X11_maybeSilent v2) = 0 → vp_in ((f_X11_echoSteps v1) * 32) 1024 ∧ vp_in ((f_X11_echoSteps v1) * 32) 1024 ∧ ∀ h108, h108 = mSI h 46 ((f_X11_echoSteps v1) * 32).toNatClampNeg ((mI h 46 ((f_X11_echoSteps v1) * 32).toNatClampNeg) + 1) → (((f_X11_maybeSilent v1) = 0 → (((f_X11_maybeSilent v1) = 0 → Q none h108) ∧ (¬ (f_X11_maybeSilent v1) = 0 → (((f_X11_maybeSilent v2) = 0 → Q none h108) ∧ (¬ (f_X11_maybeSilent v2) = 0 → vp_in 0 1024 ∧ vp_in 0 1024 ∧ ∀ h111, h111 = mSI h108 46 0 ((mI h108 46 0) + 1) → Q none h111))))) ∧ (¬ (f_X11_maybeSilent v1) = 0 → (((f_X11_echoSteps v2) ≤ 0 → (((f_X11_maybeSilent v1) = 0 → Q none h108) ∧ (¬ (f_X11_maybeSilent v1) = 0 → (((f_X11_maybeSilent v2) = 0 → Q none h108) ∧ (¬ (f_X11_maybeSilent v2) = 0 → vp_in 0 1024 ∧ vp_in 0 1024 ∧ ∀ h116, h116 = mSI h108 46 0 ((mI h108 46 0) + 1) → Q none h116))))) ∧ (¬ ((f_X11_echoSteps v2) ≤ 0) → vp_in (f_X11_echoSteps v2) 1024 ∧ vp_in (f_X11_echoSteps v2) 1024 ∧ ∀ h121, h121 = mSI h108 46 (f_X11_echoSteps v2).toNatClampNeg ((mI h108 46 (f_X11_echoSteps v2).toNatClampNeg) + 1) → (((f_X11_maybeSilent v1) = 0 → Q none h121) ∧ (¬ (f_X11_maybeSilent v1) = 0 → (((f_X11_maybeSilent v2) = 0 → Q none h121) ∧ (¬ (f_X11_maybeSilent v2) = 0 → vp_in 0 1024 ∧ vp_in 0 1024 ∧ ∀ h124, h124 = mSI h121 46 0 ((mI h121 46 0) + 1) → Q none h124))))))))))))) ∧ (¬ ((f_X11_echoSteps v2) ≤ 0) → vp_in (((f_X11_echoSteps v1) * 32) + (f_X11_echoSteps v2)) 1024 ∧ vp_in (((f_X11_echoSteps v1) * 32) + (f_X11_echoSteps v2)) 1024 ∧ ∀ h133, h133 = mSI h 46 (((f_X11_echoSteps v1) * 32) + (f_X11_echoSteps v2)).toNatClampNeg ((mI h 46 (((f_X11_echoSteps v1) * 32) + (f_X11_echoSteps v2)).toNatClampNeg) + 1) → ((((f_X11_echoSteps v1) * 32) ≤ 0 → (((f_X11_maybeSilent v1) = 0 → (((f_X11_maybeSilent v1) = 0 → Q none h133) ∧ (¬ (f_X11_maybeSilent v1) = 0 → (((f_X11_maybeSilent v2) = 0 → Q none h133) ∧ (¬ (f_X11_maybeSilent v2) = 0 → vp_in 0 1024 ∧ vp_in 0 1024 ∧ ∀ h136, h136 = mSI h133 46 0 ((mI h133 46 0) + 1) → Q none h136))))) ∧ (¬ (f_X11_maybeSilent v1) = 0 → (((f_X11_echoSteps v2) ≤ 0 → (((f_X11_maybeSilent v1) = 0 → Q none h133) ∧ (¬ (f_X11_maybeSilent v1) = 0 → (((f_X11_maybeSilent v2) = 0 → Q none h133) ∧ (¬ (f_X11_maybeSilent v2) = 0 → vp_in 0 1024 ∧ vp_in 0 1024 ∧ ∀ h141, h141 = mSI h133 46 0 ((mI h133 46 0) + 1) → Q none h141))))) ∧ (¬ ((f_X11_echoSteps v2) ≤ 0) → vp_in (f_X11_echoSteps v2) 1024 ∧ vp_in (f_X11_echoSteps v2) 1024 ∧ ∀ h146, h146 = mSI h133 46 (f_X11_echoSteps v2).toNatClampNeg ((mI h133 46 (f_X11_echoSteps v2).toNatClampNeg) + 1) → (((f_X11_maybeSilent v1) = 0 → Q none h146) ∧ (¬ (f_X11_maybeSilent v1) = 0 → (((f_X11_maybeSilent v2) = 0 → Q none h146) ∧ (¬ (f_X11_maybeSilent v2) = 0 → vp_in 0 1024 ∧ vp_in 0 1024 ∧ ∀ h149, h149 = mSI h146 46 0 ((mI h146 46 0) + 1) → Q none h149))))))))) ∧ (¬ (((f_X11_echoSteps v1) * 32) ≤ 0) → (((f_X11_maybeSilent v2) = 0 → (((f_X11_maybeSilent v1) = 0 → (((f_X11_maybeSilent v1) = 0 → Q none h133) ∧ (¬ (f_X11_maybeSilent v1) = 0 → (((f_X11_maybeSilent v2) = 0 → Q none h133) ∧ (¬ (f_X11_maybeSilent v2) = 0 → vp_in 0 1024 ∧ vp_in 0 1024 ∧ ∀ h156, h156 = mSI h133 46 0 ((mI h133 46 0) + 1) → Q none h156))))) ∧ (¬ (f_X11_maybeSilent v1) = 0 → (((f_X11_echoSteps v2) ≤ 0 → (((f_X11_maybeSilent v1) = 0 → Q none h133) ∧ (¬ (f_X11_maybeSilent v1) = 0 → (((f_X11_maybeSilent v2) = 0 → Q none h133) ∧ (¬ (f_X11_maybeSilent v2) = 0 → vp_in 0 1024 ∧ vp_in 0 1024 ∧ ∀ h161, h161 = mSI h133 46 0 ((mI h133 46 0) + 1) → Q none h161))))) ∧ (¬ ((f_X11_echoSteps v2) ≤ 0) → vp_in (f_X11_echoSteps v2) 1024 ∧ vp_in (f_X11_echoSteps v2) 1024 ∧ ∀ h166, h166 = mSI h133 46 (f_X11_echoSteps v2).toNatClampNeg ((mI h133 46 (f_X11_echoSteps v2).toNatClampNeg) + 1) → (((f_X11_maybeSilent v1) = 0 → Q none h166) ∧ (¬ (f_X11_maybeSilent v1) = 0 → (((f_X11_maybeSilent v2) = 0 → Q none h166) ∧ (¬ (f_X11_maybeSilent v2) = 0 → vp_in 0 1024 ∧ vp_in 0 1024 ∧ ∀ h169, h169 = mSI h166 46 0 ((mI h166 46 0) + 1) → Q none h169))))))))) ∧ (¬ (f_X11_maybeSilent v2) = 0 → vp_in ((f_X11_echoSteps v1) * 32) 1024 ∧ vp_in ((f_X11_echoSteps v1) * 32) 1024 ∧ ∀ h176, h176 = mSI h133 46 ((f_X11_echoSteps v1) * 32).toNatClampNeg ((mI h133 46 ((f_X11_echoSteps v1) * 32).toNatClampNeg) + 1) → (((f_X11_maybeSilent v1) = 0 → (((f_X11_maybeSilent v1) = 0 → Q none h176) ∧ (¬ (f_X11_maybeSilent v1) = 0 → (((f_X11_maybeSilent v2) = 0 → Q none h176) ∧ (¬ (f_X11_maybeSilent v2) = 0 → vp_in 0 1024 ∧ vp_in 0 1024 ∧ ∀ h179, h179 = mSI h176 46 0 ((mI h176 46 0) + 1) → Q none h179))))) ∧ (¬ (f_X11_maybeSilent v1) = 0 → (((f_X11_echoSteps v2) ≤ 0 → (((f_X11_maybeSilent v1) = 0 → Q none h176) ∧ (¬ (f_X11_maybeSilent v1) = 0 → (((f_X11_maybeSilent v2) = 0 → Q none h176) ∧ (¬ (f_X11_maybeSilent v2) = 0 → vp_in 0 1024 ∧ vp_in 0 1024 ∧ ∀ h184, h184 = mSI h176 46 0 ((mI h176 46 0) + 1) → Q none h184))))) ∧ (¬ ((f_X11_echoSteps v2) ≤ 0) → vp_in (f_X11_echoSteps v2) 1024 ∧ vp_in (f_X11_echoSteps v2) 1024 ∧ ∀ h189, h189 = mSI h176 46 (f_X11_echoSteps v2).toNatClampNeg ((mI h176 46 (f_X11_echoSteps v2).toNatClampNeg) + 1) → (((f_X11_maybeSilent v1) = 0 → Q none h189) ∧ (¬ (f_X11_maybeSilent v1) = 0 → (((f_X11_maybeSilent v2) = 0 → Q none h189) ∧ (¬ (f_X11_maybeSilent v2) = 0 → vp_in 0 1024 ∧ vp_in 0 1024 ∧ ∀ h192, h192 = mSI h189 46 0 ((mI h189 46 0) + 1) → Q none h192))))))))))))))))) : mC G kX8_addPairs (d + 1) b [.inr (some 41), .inl v1, .inl v2] h Q := by
  refine mC_in rfl (Nat.le_of_ble_eq_true rfl) ?_
  show mW _ _ _ _ _ [some (.inr (some 41)), some (.inl v1), some (.inl v2), none, none, none, none] _ _ _
  refine mw_iload_n (pc' := 1) dX8_addPairs_0 rfl rfl ?_
  refine mw_callS (pc' := 4) (b' := (0, 0)) (b1 := b) (av := [.inl v1]) (rest := []) dX8_addPairs_1 rfl lkX8_115 rfl rfl (Nat.le_of_ble_eq_true rfl) ⟨Nat.le_of_eq (Nat.zero_add _), Nat.le_of_eq (Nat.zero_add _)⟩ ?_
  refine pX11_echoSteps ?_
  refine mw_bipush (pc' := 6) (v := 32) dX8_addPairs_4 rfl (by decide) ?_
  refine mw_imul (pc' := 7) dX8_addPairs_6 rfl ?_
  refine mw_istore_n (pc' := 8) dX8_addPairs_7 rfl (by decide) ?_
  show mW _ _ _ _ _ [some (.inr (some 41)), some (.inl v1), some (.inl v2), some (.inl ((f_X11_echoSteps v1) * 32)), none, none, none] _ _ _
  refine mw_iload_n (pc' := 9) dX8_addPairs_8 rfl rfl ?_
  refine mw_callS (pc' := 12) (b' := (0, 0)) (b1 := b) (av := [.inl v2]) (rest := []) dX8_addPairs_9 rfl lkX8_115 rfl rfl (Nat.le_of_ble_eq_true rfl) ⟨Nat.le_of_eq (Nat.zero_add _), Nat.le_of_eq (Nat.zero_add _)⟩ ?_
  refine pX11_echoSteps ?_
  refine mw_istore (pc' := 14) dX8_addPairs_12 rfl (by decide) ?_
  show mW _ _ _ _ _ [some (.inr (some 41)), some (.inl v1), some (.inl v2), some (.inl ((f_X11_echoSteps v1) * 32)), some (.inl (f_X11_echoSteps v2)), none, none] _ _ _
  refine mw_iload_n (pc' := 15) dX8_addPairs_14 rfl rfl ?_
  refine mw_callS (pc' := 18) (b' := (0, 0)) (b1 := b) (av := [.inl v1]) (rest := []) dX8_addPairs_15 rfl lkX8_118 rfl rfl (Nat.le_of_ble_eq_true rfl) ⟨Nat.le_of_eq (Nat.zero_add _), Nat.le_of_eq (Nat.zero_add _)⟩ ?_
  refine pX11_maybeSilent ?_
  refine mw_istore (pc' := 20) dX8_addPairs_18 rfl (by decide) ?_
  show mW _ _ _ _ _ [some (.inr (some 41)), some (.inl v1), some (.inl v2), some (.inl ((f_X11_echoSteps v1) * 32)), some (.inl (f_X11_echoSteps v2)), some (.inl (f_X11_maybeSilent v1)), none] _ _ _
  refine mw_iload_n (pc' := 21) dX8_addPairs_20 rfl rfl ?_
  refine mw_callS (pc' := 24) (b' := (0, 0)) (b1 := b) (av := [.inl v2]) (rest := []) dX8_addPairs_21 rfl lkX8_118 rfl rfl (Nat.le_of_ble_eq_true rfl) ⟨Nat.le_of_eq (Nat.zero_add _), Nat.le_of_eq (Nat.zero_add _)⟩ ?_
  refine pX11_maybeSilent ?_
  refine mw_istore (pc' := 26) dX8_addPairs_24 rfl (by decide) ?_
  show mW _ _ _ _ _ [some (.inr (some 41)), some (.inl v1), some (.inl v2), some (.inl ((f_X11_echoSteps v1) * 32)), some (.inl (f_X11_echoSteps v2)), some (.inl (f_X11_maybeSilent v1)), some (.inl (f_X11_maybeSilent v2))] _ _ _
  refine mw_iload_n (pc' := 27) dX8_addPairs_26 rfl rfl ?_
  refine mw_if_le (pc' := 30) (tgt := 48) dX8_addPairs_27 rfl (by decide) (fun c200 => ?_) (fun c200 => ?_)
  · replace K := K.1 c200
    refine mw_iload_n (pc' := 49) dX8_addPairs_48 rfl rfl ?_
    refine mw_if_le (pc' := 52) (tgt := 67) dX8_addPairs_49 rfl (by decide) (fun c65 => ?_) (fun c65 => ?_)
    · replace K := K.1 c65
      refine mw_iload (pc' := 69) dX8_addPairs_67 rfl rfl ?_
      refine mw_if_eq (pc' := 72) (tgt := 88) dX8_addPairs_69 rfl (by decide) (fun c20 => ?_) (fun c20 => ?_)
      · replace K := K.1 c20
        refine mw_iload (pc' := 90) dX8_addPairs_88 rfl rfl ?_
        refine mw_if_eq (pc' := 93) (tgt := 108) dX8_addPairs_90 rfl (by decide) (fun c5 => ?_) (fun c5 => ?_)
        · replace K := K.1 c5
          exact mw_ret dX8_addPairs_108 rfl K
        · replace K := K.2 c5
          refine mw_iload (pc' := 95) dX8_addPairs_93 rfl rfl ?_
          refine mw_if_eq (pc' := 98) (tgt := 108) dX8_addPairs_95 rfl (by decide) (fun c4 => ?_) (fun c4 => ?_)
          · replace K := K.1 c4
            exact mw_ret dX8_addPairs_108 rfl K
          · replace K := K.2 c4
            refine mw_aload_n (pc' := 99) dX8_addPairs_98 rfl rfl ?_
            refine mw_getR (pc' := 102) dX8_addPairs_99 rfl flX8_24 rfl (skT_41 hS) ?_
            rw [skR_41_11 hS]
            refine mw_iconst (pc' := 103) (v := 0) dX8_addPairs_102 rfl (by decide) ?_
            refine mw_dup2 (pc' := 104) dX8_addPairs_103 rfl ?_
            obtain ⟨o1, K⟩ := K
            refine mw_ialdL (pc' := 105) dX8_addPairs_104 rfl (skT_46 hS) (skL_46 hS) o1 ?_
            refine mw_iconst (pc' := 106) (v := 1) dX8_addPairs_105 rfl (by decide) ?_
            refine mw_iadd (pc' := 107) dX8_addPairs_106 rfl ?_
            obtain ⟨o2, K⟩ := K
            refine mw_iastK (pc' := 108) dX8_addPairs_107 rfl (skT_46 hS) (skL_46 hS) o2 hS (fun h3 eh3 hS => ?_)
            replace K := K h3 eh3
            exact mw_ret dX8_addPairs_108 rfl K
      · replace K := K.2 c20
        refine mw_iload (pc' := 74) dX8_addPairs_72 rfl rfl ?_
        refine mw_if_le (pc' := 77) (tgt := 88) dX8_addPairs_74 rfl (by decide) (fun c19 => ?_) (fun c19 => ?_)
        · replace K := K.1 c19
          refine mw_iload (pc' := 90) dX8_addPairs_88 rfl rfl ?_
          refine mw_if_eq (pc' := 93) (tgt := 108) dX8_addPairs_90 rfl (by decide) (fun c10 => ?_) (fun c10 => ?_)
          · replace K := K.1 c10
            exact mw_ret dX8_addPairs_108 rfl K
          · replace K := K.2 c10
            refine mw_iload (pc' := 95) dX8_addPairs_93 rfl rfl ?_
            refine mw_if_eq (pc' := 98) (tgt := 108) dX8_addPairs_95 rfl (by decide) (fun c9 => ?_) (fun c9 => ?_)
            · replace K := K.1 c9
              exact mw_ret dX8_addPairs_108 rfl K
            · replace K := K.2 c9
              refine mw_aload_n (pc' := 99) dX8_addPairs_98 rfl rfl ?_
              refine mw_getR (pc' := 102) dX8_addPairs_99 rfl flX8_24 rfl (skT_41 hS) ?_
              rw [skR_41_11 hS]
              refine mw_iconst (pc' := 103) (v := 0) dX8_addPairs_102 rfl (by decide) ?_
              refine mw_dup2 (pc' := 104) dX8_addPairs_103 rfl ?_
              obtain ⟨o6, K⟩ := K
              refine mw_ialdL (pc' := 105) dX8_addPairs_104 rfl (skT_46 hS) (skL_46 hS) o6 ?_
              refine mw_iconst (pc' := 106) (v := 1) dX8_addPairs_105 rfl (by decide) ?_
              refine mw_iadd (pc' := 107) dX8_addPairs_106 rfl ?_
              obtain ⟨o7, K⟩ := K
              refine mw_iastK (pc' := 108) dX8_addPairs_107 rfl (skT_46 hS) (skL_46 hS) o7 hS (fun h8 eh8 hS => ?_)
              replace K := K h8 eh8
              exact mw_ret dX8_addPairs_108 rfl K
        · replace K := K.2 c19
          refine mw_aload_n (pc' := 78) dX8_addPairs_77 rfl rfl ?_
          refine mw_getR (pc' := 81) dX8_addPairs_78 rfl flX8_24 rfl (skT_41 hS) ?_
          rw [skR_41_11 hS]
          refine mw_iload (pc' := 83) dX8_addPairs_81 rfl rfl ?_
          refine mw_dup2 (pc' := 84) dX8_addPairs_83 rfl ?_
          obtain ⟨o11, K⟩ := K
          refine mw_ialdL (pc' := 85) dX8_addPairs_84 rfl (skT_46 hS) (skL_46 hS) o11 ?_
          refine mw_iconst (pc' := 86) (v := 1) dX8_addPairs_85 rfl (by decide) ?_
          refine mw_iadd (pc' := 87) dX8_addPairs_86 rfl ?_
          obtain ⟨o12, K⟩ := K
          refine mw_iastK (pc' := 88) dX8_addPairs_87 rfl (skT_46 hS) (skL_46 hS) o12 hS (fun h13 eh13 hS => ?_)
          replace K := K h13 eh13
          refine mw_iload (pc' := 90) dX8_addPairs_88 rfl rfl ?_
          refine mw_if_eq (pc' := 93) (tgt := 108) dX8_addPairs_90 rfl (by decide) (fun c18 => ?_) (fun c18 => ?_)
          · replace K := K.1 c18
            exact mw_ret dX8_addPairs_108 rfl K
          · replace K := K.2 c18
            refine mw_iload (pc' := 95) dX8_addPairs_93 rfl rfl ?_
            refine mw_if_eq (pc' := 98) (tgt := 108) dX8_addPairs_95 rfl (by decide) (fun c17 => ?_) (fun c17 => ?_)
            · replace K := K.1 c17
              exact mw_ret dX8_addPairs_108 rfl K
            · replace K := K.2 c17
              refine mw_aload_n (pc' := 99) dX8_addPairs_98 rfl rfl ?_
              refine mw_getR (pc' := 102) dX8_addPairs_99 rfl flX8_24 rfl (skT_41 hS) ?_
              rw [skR_41_11 hS]
              refine mw_iconst (pc' := 103) (v := 0) dX8_addPairs_102 rfl (by decide) ?_
              refine mw_dup2 (pc' := 104) dX8_addPairs_103 rfl ?_
              obtain ⟨o14, K⟩ := K
              refine mw_ialdL (pc' := 105) dX8_addPairs_104 rfl (skT_46 hS) (skL_46 hS) o14 ?_
              refine mw_iconst (pc' := 106) (v := 1) dX8_addPairs_105 rfl (by decide) ?_
              refine mw_iadd (pc' := 107) dX8_addPairs_106 rfl ?_
              obtain ⟨o15, K⟩ := K
              refine mw_iastK (pc' := 108) dX8_addPairs_107 rfl (skT_46 hS) (skL_46 hS) o15 hS (fun h16 eh16 hS => ?_)
              replace K := K h16 eh16
              exact mw_ret dX8_addPairs_108 rfl K
    · replace K := K.2 c65
      refine mw_iload (pc' := 54) dX8_addPairs_52 rfl rfl ?_
      refine mw_if_eq (pc' := 57) (tgt := 67) dX8_addPairs_54 rfl (by decide) (fun c64 => ?_) (fun c64 => ?_)
      · replace K := K.1 c64
        refine mw_iload (pc' := 69) dX8_addPairs_67 rfl rfl ?_
        refine mw_if_eq (pc' := 72) (tgt := 88) dX8_addPairs_69 rfl (by decide) (fun c40 => ?_) (fun c40 => ?_)
        · replace K := K.1 c40
          refine mw_iload (pc' := 90) dX8_addPairs_88 rfl rfl ?_
          refine mw_if_eq (pc' := 93) (tgt := 108) dX8_addPairs_90 rfl (by decide) (fun c25 => ?_) (fun c25 => ?_)
          · replace K := K.1 c25
            exact mw_ret dX8_addPairs_108 rfl K
          · replace K := K.2 c25
            refine mw_iload (pc' := 95) dX8_addPairs_93 rfl rfl ?_
            refine mw_if_eq (pc' := 98) (tgt := 108) dX8_addPairs_95 rfl (by decide) (fun c24 => ?_) (fun c24 => ?_)
            · replace K := K.1 c24
              exact mw_ret dX8_addPairs_108 rfl K
            · replace K := K.2 c24
              refine mw_aload_n (pc' := 99) dX8_addPairs_98 rfl rfl ?_
              refine mw_getR (pc' := 102) dX8_addPairs_99 rfl flX8_24 rfl (skT_41 hS) ?_
              rw [skR_41_11 hS]
              refine mw_iconst (pc' := 103) (v := 0) dX8_addPairs_102 rfl (by decide) ?_
              refine mw_dup2 (pc' := 104) dX8_addPairs_103 rfl ?_
              obtain ⟨o21, K⟩ := K
              refine mw_ialdL (pc' := 105) dX8_addPairs_104 rfl (skT_46 hS) (skL_46 hS) o21 ?_
              refine mw_iconst (pc' := 106) (v := 1) dX8_addPairs_105 rfl (by decide) ?_
              refine mw_iadd (pc' := 107) dX8_addPairs_106 rfl ?_
              obtain ⟨o22, K⟩ := K
              refine mw_iastK (pc' := 108) dX8_addPairs_107 rfl (skT_46 hS) (skL_46 hS) o22 hS (fun h23 eh23 hS => ?_)
              replace K := K h23 eh23
              exact mw_ret dX8_addPairs_108 rfl K
        · replace K := K.2 c40
          refine mw_iload (pc' := 74) dX8_addPairs_72 rfl rfl ?_
          refine mw_if_le (pc' := 77) (tgt := 88) dX8_addPairs_74 rfl (by decide) (fun c39 => ?_) (fun c39 => ?_)
          · replace K := K.1 c39
            refine mw_iload (pc' := 90) dX8_addPairs_88 rfl rfl ?_
            refine mw_if_eq (pc' := 93) (tgt := 108) dX8_addPairs_90 rfl (by decide) (fun c30 => ?_) (fun c30 => ?_)
            · replace K := K.1 c30
              exact mw_ret dX8_addPairs_108 rfl K
            · replace K := K.2 c30
              refine mw_iload (pc' := 95) dX8_addPairs_93 rfl rfl ?_
              refine mw_if_eq (pc' := 98) (tgt := 108) dX8_addPairs_95 rfl (by decide) (fun c29 => ?_) (fun c29 => ?_)
              · replace K := K.1 c29
                exact mw_ret dX8_addPairs_108 rfl K
              · replace K := K.2 c29
                refine mw_aload_n (pc' := 99) dX8_addPairs_98 rfl rfl ?_
                refine mw_getR (pc' := 102) dX8_addPairs_99 rfl flX8_24 rfl (skT_41 hS) ?_
                rw [skR_41_11 hS]
                refine mw_iconst (pc' := 103) (v := 0) dX8_addPairs_102 rfl (by decide) ?_
                refine mw_dup2 (pc' := 104) dX8_addPairs_103 rfl ?_
                obtain ⟨o26, K⟩ := K
                refine mw_ialdL (pc' := 105) dX8_addPairs_104 rfl (skT_46 hS) (skL_46 hS) o26 ?_
                refine mw_iconst (pc' := 106) (v := 1) dX8_addPairs_105 rfl (by decide) ?_
                refine mw_iadd (pc' := 107) dX8_addPairs_106 rfl ?_
                obtain ⟨o27, K⟩ := K
                refine mw_iastK (pc' := 108) dX8_addPairs_107 rfl (skT_46 hS) (skL_46 hS) o27 hS (fun h28 eh28 hS => ?_)
                replace K := K h28 eh28
                exact mw_ret dX8_addPairs_108 rfl K
          · replace K := K.2 c39
            refine mw_aload_n (pc' := 78) dX8_addPairs_77 rfl rfl ?_
            refine mw_getR (pc' := 81) dX8_addPairs_78 rfl flX8_24 rfl (skT_41 hS) ?_
            rw [skR_41_11 hS]
            refine mw_iload (pc' := 83) dX8_addPairs_81 rfl rfl ?_
            refine mw_dup2 (pc' := 84) dX8_addPairs_83 rfl ?_
            obtain ⟨o31, K⟩ := K
            refine mw_ialdL (pc' := 85) dX8_addPairs_84 rfl (skT_46 hS) (skL_46 hS) o31 ?_
            refine mw_iconst (pc' := 86) (v := 1) dX8_addPairs_85 rfl (by decide) ?_
            refine mw_iadd (pc' := 87) dX8_addPairs_86 rfl ?_
            obtain ⟨o32, K⟩ := K
            refine mw_iastK (pc' := 88) dX8_addPairs_87 rfl (skT_46 hS) (skL_46 hS) o32 hS (fun h33 eh33 hS => ?_)
            replace K := K h33 eh33
            refine mw_iload (pc' := 90) dX8_addPairs_88 rfl rfl ?_
            refine mw_if_eq (pc' := 93) (tgt := 108) dX8_addPairs_90 rfl (by decide) (fun c38 => ?_) (fun c38 => ?_)
            · replace K := K.1 c38
              exact mw_ret dX8_addPairs_108 rfl K
            · replace K := K.2 c38
              refine mw_iload (pc' := 95) dX8_addPairs_93 rfl rfl ?_
              refine mw_if_eq (pc' := 98) (tgt := 108) dX8_addPairs_95 rfl (by decide) (fun c37 => ?_) (fun c37 => ?_)
              · replace K := K.1 c37
                exact mw_ret dX8_addPairs_108 rfl K
              · replace K := K.2 c37
                refine mw_aload_n (pc' := 99) dX8_addPairs_98 rfl rfl ?_
                refine mw_getR (pc' := 102) dX8_addPairs_99 rfl flX8_24 rfl (skT_41 hS) ?_
                rw [skR_41_11 hS]
                refine mw_iconst (pc' := 103) (v := 0) dX8_addPairs_102 rfl (by decide) ?_
                refine mw_dup2 (pc' := 104) dX8_addPairs_103 rfl ?_
                obtain ⟨o34, K⟩ := K
                refine mw_ialdL (pc' := 105) dX8_addPairs_104 rfl (skT_46 hS) (skL_46 hS) o34 ?_
                refine mw_iconst (pc' := 106) (v := 1) dX8_addPairs_105 rfl (by decide) ?_
                refine mw_iadd (pc' := 107) dX8_addPairs_106 rfl ?_
                obtain ⟨o35, K⟩ := K
                refine mw_iastK (pc' := 108) dX8_addPairs_107 rfl (skT_46 hS) (skL_46 hS) o35 hS (fun h36 eh36 hS => ?_)
                replace K := K h36 eh36
                exact mw_ret dX8_addPairs_108 rfl K
      · replace K := K.2 c64
        refine mw_aload_n (pc' := 58) dX8_addPairs_57 rfl rfl ?_
        refine mw_getR (pc' := 61) dX8_addPairs_58 rfl flX8_24 rfl (skT_41 hS) ?_
        rw [skR_41_11 hS]
        refine mw_iload_n (pc' := 62) dX8_addPairs_61 rfl rfl ?_
        refine mw_dup2 (pc' := 63) dX8_addPairs_62 rfl ?_
        obtain ⟨o41, K⟩ := K
        refine mw_ialdL (pc' := 64) dX8_addPairs_63 rfl (skT_46 hS) (skL_46 hS) o41 ?_
        refine mw_iconst (pc' := 65) (v := 1) dX8_addPairs_64 rfl (by decide) ?_
        refine mw_iadd (pc' := 66) dX8_addPairs_65 rfl ?_
        obtain ⟨o42, K⟩ := K
        refine mw_iastK (pc' := 67) dX8_addPairs_66 rfl (skT_46 hS) (skL_46 hS) o42 hS (fun h43 eh43 hS => ?_)
        replace K := K h43 eh43
        refine mw_iload (pc' := 69) dX8_addPairs_67 rfl rfl ?_
        refine mw_if_eq (pc' := 72) (tgt := 88) dX8_addPairs_69 rfl (by decide) (fun c63 => ?_) (fun c63 => ?_)
        · replace K := K.1 c63
          refine mw_iload (pc' := 90) dX8_addPairs_88 rfl rfl ?_
          refine mw_if_eq (pc' := 93) (tgt := 108) dX8_addPairs_90 rfl (by decide) (fun c48 => ?_) (fun c48 => ?_)
          · replace K := K.1 c48
            exact mw_ret dX8_addPairs_108 rfl K
          · replace K := K.2 c48
            refine mw_iload (pc' := 95) dX8_addPairs_93 rfl rfl ?_
            refine mw_if_eq (pc' := 98) (tgt := 108) dX8_addPairs_95 rfl (by decide) (fun c47 => ?_) (fun c47 => ?_)
            · replace K := K.1 c47
              exact mw_ret dX8_addPairs_108 rfl K
            · replace K := K.2 c47
              refine mw_aload_n (pc' := 99) dX8_addPairs_98 rfl rfl ?_
              refine mw_getR (pc' := 102) dX8_addPairs_99 rfl flX8_24 rfl (skT_41 hS) ?_
              rw [skR_41_11 hS]
              refine mw_iconst (pc' := 103) (v := 0) dX8_addPairs_102 rfl (by decide) ?_
              refine mw_dup2 (pc' := 104) dX8_addPairs_103 rfl ?_
              obtain ⟨o44, K⟩ := K
              refine mw_ialdL (pc' := 105) dX8_addPairs_104 rfl (skT_46 hS) (skL_46 hS) o44 ?_
              refine mw_iconst (pc' := 106) (v := 1) dX8_addPairs_105 rfl (by decide) ?_
              refine mw_iadd (pc' := 107) dX8_addPairs_106 rfl ?_
              obtain ⟨o45, K⟩ := K
              refine mw_iastK (pc' := 108) dX8_addPairs_107 rfl (skT_46 hS) (skL_46 hS) o45 hS (fun h46 eh46 hS => ?_)
              replace K := K h46 eh46
              exact mw_ret dX8_addPairs_108 rfl K
        · replace K := K.2 c63
          refine mw_iload (pc' := 74) dX8_addPairs_72 rfl rfl ?_
          refine mw_if_le (pc' := 77) (tgt := 88) dX8_addPairs_74 rfl (by decide) (fun c62 => ?_) (fun c62 => ?_)
          · replace K := K.1 c62
            refine mw_iload (pc' := 90) dX8_addPairs_88 rfl rfl ?_
            refine mw_if_eq (pc' := 93) (tgt := 108) dX8_addPairs_90 rfl (by decide) (fun c53 => ?_) (fun c53 => ?_)
            · replace K := K.1 c53
              exact mw_ret dX8_addPairs_108 rfl K
            · replace K := K.2 c53
              refine mw_iload (pc' := 95) dX8_addPairs_93 rfl rfl ?_
              refine mw_if_eq (pc' := 98) (tgt := 108) dX8_addPairs_95 rfl (by decide) (fun c52 => ?_) (fun c52 => ?_)
              · replace K := K.1 c52
                exact mw_ret dX8_addPairs_108 rfl K
              · replace K := K.2 c52
                refine mw_aload_n (pc' := 99) dX8_addPairs_98 rfl rfl ?_
                refine mw_getR (pc' := 102) dX8_addPairs_99 rfl flX8_24 rfl (skT_41 hS) ?_
                rw [skR_41_11 hS]
                refine mw_iconst (pc' := 103) (v := 0) dX8_addPairs_102 rfl (by decide) ?_
                refine mw_dup2 (pc' := 104) dX8_addPairs_103 rfl ?_
                obtain ⟨o49, K⟩ := K
                refine mw_ialdL (pc' := 105) dX8_addPairs_104 rfl (skT_46 hS) (skL_46 hS) o49 ?_
                refine mw_iconst (pc' := 106) (v := 1) dX8_addPairs_105 rfl (by decide) ?_
                refine mw_iadd (pc' := 107) dX8_addPairs_106 rfl ?_
                obtain ⟨o50, K⟩ := K
                refine mw_iastK (pc' := 108) dX8_addPairs_107 rfl (skT_46 hS) (skL_46 hS) o50 hS (fun h51 eh51 hS => ?_)
                replace K := K h51 eh51
                exact mw_ret dX8_addPairs_108 rfl K
          · replace K := K.2 c62
            refine mw_aload_n (pc' := 78) dX8_addPairs_77 rfl rfl ?_
            refine mw_getR (pc' := 81) dX8_addPairs_78 rfl flX8_24 rfl (skT_41 hS) ?_
            rw [skR_41_11 hS]
            refine mw_iload (pc' := 83) dX8_addPairs_81 rfl rfl ?_
            refine mw_dup2 (pc' := 84) dX8_addPairs_83 rfl ?_
            obtain ⟨o54, K⟩ := K
            refine mw_ialdL (pc' := 85) dX8_addPairs_84 rfl (skT_46 hS) (skL_46 hS) o54 ?_
            refine mw_iconst (pc' := 86) (v := 1) dX8_addPairs_85 rfl (by decide) ?_
            refine mw_iadd (pc' := 87) dX8_addPairs_86 rfl ?_
            obtain ⟨o55, K⟩ := K
            refine mw_iastK (pc' := 88) dX8_addPairs_87 rfl (skT_46 hS) (skL_46 hS) o55 hS (fun h56 eh56 hS => ?_)
            replace K := K h56 eh56
            refine mw_iload (pc' := 90) dX8_addPairs_88 rfl rfl ?_
            refine mw_if_eq (pc' := 93) (tgt := 108) dX8_addPairs_90 rfl (by decide) (fun c61 => ?_) (fun c61 => ?_)
            · replace K := K.1 c61
              exact mw_ret dX8_addPairs_108 rfl K
            · replace K := K.2 c61
              refine mw_iload (pc' := 95) dX8_addPairs_93 rfl rfl ?_
              refine mw_if_eq (pc' := 98) (tgt := 108) dX8_addPairs_95 rfl (by decide) (fun c60 => ?_) (fun c60 => ?_)
              · replace K := K.1 c60
                exact mw_ret dX8_addPairs_108 rfl K
              · replace K := K.2 c60
                refine mw_aload_n (pc' := 99) dX8_addPairs_98 rfl rfl ?_
                refine mw_getR (pc' := 102) dX8_addPairs_99 rfl flX8_24 rfl (skT_41 hS) ?_
                rw [skR_41_11 hS]
                refine mw_iconst (pc' := 103) (v := 0) dX8_addPairs_102 rfl (by decide) ?_
                refine mw_dup2 (pc' := 104) dX8_addPairs_103 rfl ?_
                obtain ⟨o57, K⟩ := K
                refine mw_ialdL (pc' := 105) dX8_addPairs_104 rfl (skT_46 hS) (skL_46 hS) o57 ?_
                refine mw_iconst (pc' := 106) (v := 1) dX8_addPairs_105 rfl (by decide) ?_
                refine mw_iadd (pc' := 107) dX8_addPairs_106 rfl ?_
                obtain ⟨o58, K⟩ := K
                refine mw_iastK (pc' := 108) dX8_addPairs_107 rfl (skT_46 hS) (skL_46 hS) o58 hS (fun h59 eh59 hS => ?_)
                replace K := K h59 eh59
                exact mw_ret dX8_addPairs_108 rfl K
  · replace K := K.2 c200
    refine mw_iload (pc' := 32) dX8_addPairs_30 rfl rfl ?_
    refine mw_if_le (pc' := 35) (tgt := 48) dX8_addPairs_32 rfl (by decide) (fun c199 => ?_) (fun c199 => ?_)
    · replace K := K.1 c199
      refine mw_iload_n (pc' := 49) dX8_addPairs_48 rfl rfl ?_
      refine mw_if_le (pc' := 52) (tgt := 67) dX8_addPairs_49 rfl (by decide) (fun c130 => ?_) (fun c130 => ?_)
      · replace K := K.1 c130
        refine mw_iload (pc' := 69) dX8_addPairs_67 rfl rfl ?_
        refine mw_if_eq (pc' := 72) (tgt := 88) dX8_addPairs_69 rfl (by decide) (fun c85 => ?_) (fun c85 => ?_)
        · replace K := K.1 c85
          refine mw_iload (pc' := 90) dX8_addPairs_88 rfl rfl ?_
          refine mw_if_eq (pc' := 93) (tgt := 108) dX8_addPairs_90 rfl (by decide) (fun c70 => ?_) (fun c70 => ?_)
          · replace K := K.1 c70
            exact mw_ret dX8_addPairs_108 rfl K
          · replace K := K.2 c70
            refine mw_iload (pc' := 95) dX8_addPairs_93 rfl rfl ?_
            refine mw_if_eq (pc' := 98) (tgt := 108) dX8_addPairs_95 rfl (by decide) (fun c69 => ?_) (fun c69 => ?_)
            · replace K := K.1 c69
              exact mw_ret dX8_addPairs_108 rfl K
            · replace K := K.2 c69
              refine mw_aload_n (pc' := 99) dX8_addPairs_98 rfl rfl ?_
              refine mw_getR (pc' := 102) dX8_addPairs_99 rfl flX8_24 rfl (skT_41 hS) ?_
              rw [skR_41_11 hS]
              refine mw_iconst (pc' := 103) (v := 0) dX8_addPairs_102 rfl (by decide) ?_
              refine mw_dup2 (pc' := 104) dX8_addPairs_103 rfl ?_
              obtain ⟨o66, K⟩ := K
              refine mw_ialdL (pc' := 105) dX8_addPairs_104 rfl (skT_46 hS) (skL_46 hS) o66 ?_
              refine mw_iconst (pc' := 106) (v := 1) dX8_addPairs_105 rfl (by decide) ?_
              refine mw_iadd (pc' := 107) dX8_addPairs_106 rfl ?_
              obtain ⟨o67, K⟩ := K
              refine mw_iastK (pc' := 108) dX8_addPairs_107 rfl (skT_46 hS) (skL_46 hS) o67 hS (fun h68 eh68 hS => ?_)
              replace K := K h68 eh68
              exact mw_ret dX8_addPairs_108 rfl K
        · replace K := K.2 c85
          refine mw_iload (pc' := 74) dX8_addPairs_72 rfl rfl ?_
          refine mw_if_le (pc' := 77) (tgt := 88) dX8_addPairs_74 rfl (by decide) (fun c84 => ?_) (fun c84 => ?_)
          · replace K := K.1 c84
            refine mw_iload (pc' := 90) dX8_addPairs_88 rfl rfl ?_
            refine mw_if_eq (pc' := 93) (tgt := 108) dX8_addPairs_90 rfl (by decide) (fun c75 => ?_) (fun c75 => ?_)
            · replace K := K.1 c75
              exact mw_ret dX8_addPairs_108 rfl K
            · replace K := K.2 c75
              refine mw_iload (pc' := 95) dX8_addPairs_93 rfl rfl ?_
              refine mw_if_eq (pc' := 98) (tgt := 108) dX8_addPairs_95 rfl (by decide) (fun c74 => ?_) (fun c74 => ?_)
              · replace K := K.1 c74
                exact mw_ret dX8_addPairs_108 rfl K
              · replace K := K.2 c74
                refine mw_aload_n (pc' := 99) dX8_addPairs_98 rfl rfl ?_
                refine mw_getR (pc' := 102) dX8_addPairs_99 rfl flX8_24 rfl (skT_41 hS) ?_
                rw [skR_41_11 hS]
                refine mw_iconst (pc' := 103) (v := 0) dX8_addPairs_102 rfl (by decide) ?_
                refine mw_dup2 (pc' := 104) dX8_addPairs_103 rfl ?_
                obtain ⟨o71, K⟩ := K
                refine mw_ialdL (pc' := 105) dX8_addPairs_104 rfl (skT_46 hS) (skL_46 hS) o71 ?_
                refine mw_iconst (pc' := 106) (v := 1) dX8_addPairs_105 rfl (by decide) ?_
                refine mw_iadd (pc' := 107) dX8_addPairs_106 rfl ?_
                obtain ⟨o72, K⟩ := K
                refine mw_iastK (pc' := 108) dX8_addPairs_107 rfl (skT_46 hS) (skL_46 hS) o72 hS (fun h73 eh73 hS => ?_)
                replace K := K h73 eh73
                exact mw_ret dX8_addPairs_108 rfl K
          · replace K := K.2 c84
            refine mw_aload_n (pc' := 78) dX8_addPairs_77 rfl rfl ?_
            refine mw_getR (pc' := 81) dX8_addPairs_78 rfl flX8_24 rfl (skT_41 hS) ?_
            rw [skR_41_11 hS]
            refine mw_iload (pc' := 83) dX8_addPairs_81 rfl rfl ?_
            refine mw_dup2 (pc' := 84) dX8_addPairs_83 rfl ?_
            obtain ⟨o76, K⟩ := K
            refine mw_ialdL (pc' := 85) dX8_addPairs_84 rfl (skT_46 hS) (skL_46 hS) o76 ?_
            refine mw_iconst (pc' := 86) (v := 1) dX8_addPairs_85 rfl (by decide) ?_
            refine mw_iadd (pc' := 87) dX8_addPairs_86 rfl ?_
            obtain ⟨o77, K⟩ := K
            refine mw_iastK (pc' := 88) dX8_addPairs_87 rfl (skT_46 hS) (skL_46 hS) o77 hS (fun h78 eh78 hS => ?_)
            replace K := K h78 eh78
            refine mw_iload (pc' := 90) dX8_addPairs_88 rfl rfl ?_
            refine mw_if_eq (pc' := 93) (tgt := 108) dX8_addPairs_90 rfl (by decide) (fun c83 => ?_) (fun c83 => ?_)
            · replace K := K.1 c83
              exact mw_ret dX8_addPairs_108 rfl K
            · replace K := K.2 c83
              refine mw_iload (pc' := 95) dX8_addPairs_93 rfl rfl ?_
              refine mw_if_eq (pc' := 98) (tgt := 108) dX8_addPairs_95 rfl (by decide) (fun c82 => ?_) (fun c82 => ?_)
              · replace K := K.1 c82
                exact mw_ret dX8_addPairs_108 rfl K
              · replace K := K.2 c82
                refine mw_aload_n (pc' := 99) dX8_addPairs_98 rfl rfl ?_
                refine mw_getR (pc' := 102) dX8_addPairs_99 rfl flX8_24 rfl (skT_41 hS) ?_
                rw [skR_41_11 hS]
                refine mw_iconst (pc' := 103) (v := 0) dX8_addPairs_102 rfl (by decide) ?_
                refine mw_dup2 (pc' := 104) dX8_addPairs_103 rfl ?_
                obtain ⟨o79, K⟩ := K
                refine mw_ialdL (pc' := 105) dX8_addPairs_104 rfl (skT_46 hS) (skL_46 hS) o79 ?_
                refine mw_iconst (pc' := 106) (v := 1) dX8_addPairs_105 rfl (by decide) ?_
                refine mw_iadd (pc' := 107) dX8_addPairs_106 rfl ?_
                obtain ⟨o80, K⟩ := K
                refine mw_iastK (pc' := 108) dX8_addPairs_107 rfl (skT_46 hS) (skL_46 hS) o80 hS (fun h81 eh81 hS => ?_)
                replace K := K h81 eh81
                exact mw_ret dX8_addPairs_108 rfl K
      · replace K := K.2 c130
        refine mw_iload (pc' := 54) dX8_addPairs_52 rfl rfl ?_
        refine mw_if_eq (pc' := 57) (tgt := 67) dX8_addPairs_54 rfl (by decide) (fun c129 => ?_) (fun c129 => ?_)
        · replace K := K.1 c129
          refine mw_iload (pc' := 69) dX8_addPairs_67 rfl rfl ?_
          refine mw_if_eq (pc' := 72) (tgt := 88) dX8_addPairs_69 rfl (by decide) (fun c105 => ?_) (fun c105 => ?_)
          · replace K := K.1 c105
            refine mw_iload (pc' := 90) dX8_addPairs_88 rfl rfl ?_
            refine mw_if_eq (pc' := 93) (tgt := 108) dX8_addPairs_90 rfl (by decide) (fun c90 => ?_) (fun c90 => ?_)
            · replace K := K.1 c90
              exact mw_ret dX8_addPairs_108 rfl K
            · replace K := K.2 c90
              refine mw_iload (pc' := 95) dX8_addPairs_93 rfl rfl ?_
              refine mw_if_eq (pc' := 98) (tgt := 108) dX8_addPairs_95 rfl (by decide) (fun c89 => ?_) (fun c89 => ?_)
              · replace K := K.1 c89
                exact mw_ret dX8_addPairs_108 rfl K
              · replace K := K.2 c89
                refine mw_aload_n (pc' := 99) dX8_addPairs_98 rfl rfl ?_
                refine mw_getR (pc' := 102) dX8_addPairs_99 rfl flX8_24 rfl (skT_41 hS) ?_
                rw [skR_41_11 hS]
                refine mw_iconst (pc' := 103) (v := 0) dX8_addPairs_102 rfl (by decide) ?_
                refine mw_dup2 (pc' := 104) dX8_addPairs_103 rfl ?_
                obtain ⟨o86, K⟩ := K
                refine mw_ialdL (pc' := 105) dX8_addPairs_104 rfl (skT_46 hS) (skL_46 hS) o86 ?_
                refine mw_iconst (pc' := 106) (v := 1) dX8_addPairs_105 rfl (by decide) ?_
                refine mw_iadd (pc' := 107) dX8_addPairs_106 rfl ?_
                obtain ⟨o87, K⟩ := K
                refine mw_iastK (pc' := 108) dX8_addPairs_107 rfl (skT_46 hS) (skL_46 hS) o87 hS (fun h88 eh88 hS => ?_)
                replace K := K h88 eh88
                exact mw_ret dX8_addPairs_108 rfl K
          · replace K := K.2 c105
            refine mw_iload (pc' := 74) dX8_addPairs_72 rfl rfl ?_
            refine mw_if_le (pc' := 77) (tgt := 88) dX8_addPairs_74 rfl (by decide) (fun c104 => ?_) (fun c104 => ?_)
            · replace K := K.1 c104
              refine mw_iload (pc' := 90) dX8_addPairs_88 rfl rfl ?_
              refine mw_if_eq (pc' := 93) (tgt := 108) dX8_addPairs_90 rfl (by decide) (fun c95 => ?_) (fun c95 => ?_)
              · replace K := K.1 c95
                exact mw_ret dX8_addPairs_108 rfl K
              · replace K := K.2 c95
                refine mw_iload (pc' := 95) dX8_addPairs_93 rfl rfl ?_
                refine mw_if_eq (pc' := 98) (tgt := 108) dX8_addPairs_95 rfl (by decide) (fun c94 => ?_) (fun c94 => ?_)
                · replace K := K.1 c94
                  exact mw_ret dX8_addPairs_108 rfl K
                · replace K := K.2 c94
                  refine mw_aload_n (pc' := 99) dX8_addPairs_98 rfl rfl ?_
                  refine mw_getR (pc' := 102) dX8_addPairs_99 rfl flX8_24 rfl (skT_41 hS) ?_
                  rw [skR_41_11 hS]
                  refine mw_iconst (pc' := 103) (v := 0) dX8_addPairs_102 rfl (by decide) ?_
                  refine mw_dup2 (pc' := 104) dX8_addPairs_103 rfl ?_
                  obtain ⟨o91, K⟩ := K
                  refine mw_ialdL (pc' := 105) dX8_addPairs_104 rfl (skT_46 hS) (skL_46 hS) o91 ?_
                  refine mw_iconst (pc' := 106) (v := 1) dX8_addPairs_105 rfl (by decide) ?_
                  refine mw_iadd (pc' := 107) dX8_addPairs_106 rfl ?_
                  obtain ⟨o92, K⟩ := K
                  refine mw_iastK (pc' := 108) dX8_addPairs_107 rfl (skT_46 hS) (skL_46 hS) o92 hS (fun h93 eh93 hS => ?_)
                  replace K := K h93 eh93
                  exact mw_ret dX8_addPairs_108 rfl K
            · replace K := K.2 c104
              refine mw_aload_n (pc' := 78) dX8_addPairs_77 rfl rfl ?_
              refine mw_getR (pc' := 81) dX8_addPairs_78 rfl flX8_24 rfl (skT_41 hS) ?_
              rw [skR_41_11 hS]
              refine mw_iload (pc' := 83) dX8_addPairs_81 rfl rfl ?_
              refine mw_dup2 (pc' := 84) dX8_addPairs_83 rfl ?_
              obtain ⟨o96, K⟩ := K
              refine mw_ialdL (pc' := 85) dX8_addPairs_84 rfl (skT_46 hS) (skL_46 hS) o96 ?_
              refine mw_iconst (pc' := 86) (v := 1) dX8_addPairs_85 rfl (by decide) ?_
              refine mw_iadd (pc' := 87) dX8_addPairs_86 rfl ?_
              obtain ⟨o97, K⟩ := K
              refine mw_iastK (pc' := 88) dX8_addPairs_87 rfl (skT_46 hS) (skL_46 hS) o97 hS (fun h98 eh98 hS => ?_)
              replace K := K h98 eh98
              refine mw_iload (pc' := 90) dX8_addPairs_88 rfl rfl ?_
              refine mw_if_eq (pc' := 93) (tgt := 108) dX8_addPairs_90 rfl (by decide) (fun c103 => ?_) (fun c103 => ?_)
              · replace K := K.1 c103
                exact mw_ret dX8_addPairs_108 rfl K
              · replace K := K.2 c103
                refine mw_iload (pc' := 95) dX8_addPairs_93 rfl rfl ?_
                refine mw_if_eq (pc' := 98) (tgt := 108) dX8_addPairs_95 rfl (by decide) (fun c102 => ?_) (fun c102 => ?_)
                · replace K := K.1 c102
                  exact mw_ret dX8_addPairs_108 rfl K
                · replace K := K.2 c102
                  refine mw_aload_n (pc' := 99) dX8_addPairs_98 rfl rfl ?_
                  refine mw_getR (pc' := 102) dX8_addPairs_99 rfl flX8_24 rfl (skT_41 hS) ?_
                  rw [skR_41_11 hS]
                  refine mw_iconst (pc' := 103) (v := 0) dX8_addPairs_102 rfl (by decide) ?_
                  refine mw_dup2 (pc' := 104) dX8_addPairs_103 rfl ?_
                  obtain ⟨o99, K⟩ := K
                  refine mw_ialdL (pc' := 105) dX8_addPairs_104 rfl (skT_46 hS) (skL_46 hS) o99 ?_
                  refine mw_iconst (pc' := 106) (v := 1) dX8_addPairs_105 rfl (by decide) ?_
                  refine mw_iadd (pc' := 107) dX8_addPairs_106 rfl ?_
                  obtain ⟨o100, K⟩ := K
                  refine mw_iastK (pc' := 108) dX8_addPairs_107 rfl (skT_46 hS) (skL_46 hS) o100 hS (fun h101 eh101 hS => ?_)
                  replace K := K h101 eh101
                  exact mw_ret dX8_addPairs_108 rfl K
        · replace K := K.2 c129
          refine mw_aload_n (pc' := 58) dX8_addPairs_57 rfl rfl ?_
          refine mw_getR (pc' := 61) dX8_addPairs_58 rfl flX8_24 rfl (skT_41 hS) ?_
          rw [skR_41_11 hS]
          refine mw_iload_n (pc' := 62) dX8_addPairs_61 rfl rfl ?_
          refine mw_dup2 (pc' := 63) dX8_addPairs_62 rfl ?_
          obtain ⟨o106, K⟩ := K
          refine mw_ialdL (pc' := 64) dX8_addPairs_63 rfl (skT_46 hS) (skL_46 hS) o106 ?_
          refine mw_iconst (pc' := 65) (v := 1) dX8_addPairs_64 rfl (by decide) ?_
          refine mw_iadd (pc' := 66) dX8_addPairs_65 rfl ?_
          obtain ⟨o107, K⟩ := K
          refine mw_iastK (pc' := 67) dX8_addPairs_66 rfl (skT_46 hS) (skL_46 hS) o107 hS (fun h108 eh108 hS => ?_)
          replace K := K h108 eh108
          refine mw_iload (pc' := 69) dX8_addPairs_67 rfl rfl ?_
          refine mw_if_eq (pc' := 72) (tgt := 88) dX8_addPairs_69 rfl (by decide) (fun c128 => ?_) (fun c128 => ?_)
          · replace K := K.1 c128
            refine mw_iload (pc' := 90) dX8_addPairs_88 rfl rfl ?_
            refine mw_if_eq (pc' := 93) (tgt := 108) dX8_addPairs_90 rfl (by decide) (fun c113 => ?_) (fun c113 => ?_)
            · replace K := K.1 c113
              exact mw_ret dX8_addPairs_108 rfl K
            · replace K := K.2 c113
              refine mw_iload (pc' := 95) dX8_addPairs_93 rfl rfl ?_
              refine mw_if_eq (pc' := 98) (tgt := 108) dX8_addPairs_95 rfl (by decide) (fun c112 => ?_) (fun c112 => ?_)
              · replace K := K.1 c112
                exact mw_ret dX8_addPairs_108 rfl K
              · replace K := K.2 c112
                refine mw_aload_n (pc' := 99) dX8_addPairs_98 rfl rfl ?_
                refine mw_getR (pc' := 102) dX8_addPairs_99 rfl flX8_24 rfl (skT_41 hS) ?_
                rw [skR_41_11 hS]
                refine mw_iconst (pc' := 103) (v := 0) dX8_addPairs_102 rfl (by decide) ?_
                refine mw_dup2 (pc' := 104) dX8_addPairs_103 rfl ?_
                obtain ⟨o109, K⟩ := K
                refine mw_ialdL (pc' := 105) dX8_addPairs_104 rfl (skT_46 hS) (skL_46 hS) o109 ?_
                refine mw_iconst (pc' := 106) (v := 1) dX8_addPairs_105 rfl (by decide) ?_
                refine mw_iadd (pc' := 107) dX8_addPairs_106 rfl ?_
                obtain ⟨o110, K⟩ := K
                refine mw_iastK (pc' := 108) dX8_addPairs_107 rfl (skT_46 hS) (skL_46 hS) o110 hS (fun h111 eh111 hS => ?_)
                replace K := K h111 eh111
                exact mw_ret dX8_addPairs_108 rfl K
          · replace K := K.2 c128
            refine mw_iload (pc' := 74) dX8_addPairs_72 rfl rfl ?_
            refine mw_if_le (pc' := 77) (tgt := 88) dX8_addPairs_74 rfl (by decide) (fun c127 => ?_) (fun c127 => ?_)
            · replace K := K.1 c127
              refine mw_iload (pc' := 90) dX8_addPairs_88 rfl rfl ?_
              refine mw_if_eq (pc' := 93) (tgt := 108) dX8_addPairs_90 rfl (by decide) (fun c118 => ?_) (fun c118 => ?_)
              · replace K := K.1 c118
                exact mw_ret dX8_addPairs_108 rfl K
              · replace K := K.2 c118
                refine mw_iload (pc' := 95) dX8_addPairs_93 rfl rfl ?_
                refine mw_if_eq (pc' := 98) (tgt := 108) dX8_addPairs_95 rfl (by decide) (fun c117 => ?_) (fun c117 => ?_)
                · replace K := K.1 c117
                  exact mw_ret dX8_addPairs_108 rfl K
                · replace K := K.2 c117
                  refine mw_aload_n (pc' := 99) dX8_addPairs_98 rfl rfl ?_
                  refine mw_getR (pc' := 102) dX8_addPairs_99 rfl flX8_24 rfl (skT_41 hS) ?_
                  rw [skR_41_11 hS]
                  refine mw_iconst (pc' := 103) (v := 0) dX8_addPairs_102 rfl (by decide) ?_
                  refine mw_dup2 (pc' := 104) dX8_addPairs_103 rfl ?_
                  obtain ⟨o114, K⟩ := K
                  refine mw_ialdL (pc' := 105) dX8_addPairs_104 rfl (skT_46 hS) (skL_46 hS) o114 ?_
                  refine mw_iconst (pc' := 106) (v := 1) dX8_addPairs_105 rfl (by decide) ?_
                  refine mw_iadd (pc' := 107) dX8_addPairs_106 rfl ?_
                  obtain ⟨o115, K⟩ := K
                  refine mw_iastK (pc' := 108) dX8_addPairs_107 rfl (skT_46 hS) (skL_46 hS) o115 hS (fun h116 eh116 hS => ?_)
                  replace K := K h116 eh116
                  exact mw_ret dX8_addPairs_108 rfl K
            · replace K := K.2 c127
              refine mw_aload_n (pc' := 78) dX8_addPairs_77 rfl rfl ?_
              refine mw_getR (pc' := 81) dX8_addPairs_78 rfl flX8_24 rfl (skT_41 hS) ?_
              rw [skR_41_11 hS]
              refine mw_iload (pc' := 83) dX8_addPairs_81 rfl rfl ?_
              refine mw_dup2 (pc' := 84) dX8_addPairs_83 rfl ?_
              obtain ⟨o119, K⟩ := K
              refine mw_ialdL (pc' := 85) dX8_addPairs_84 rfl (skT_46 hS) (skL_46 hS) o119 ?_
              refine mw_iconst (pc' := 86) (v := 1) dX8_addPairs_85 rfl (by decide) ?_
              refine mw_iadd (pc' := 87) dX8_addPairs_86 rfl ?_
              obtain ⟨o120, K⟩ := K
              refine mw_iastK (pc' := 88) dX8_addPairs_87 rfl (skT_46 hS) (skL_46 hS) o120 hS (fun h121 eh121 hS => ?_)
              replace K := K h121 eh121
              refine mw_iload (pc' := 90) dX8_addPairs_88 rfl rfl ?_
              refine mw_if_eq (pc' := 93) (tgt := 108) dX8_addPairs_90 rfl (by decide) (fun c126 => ?_) (fun c126 => ?_)
              · replace K := K.1 c126
                exact mw_ret dX8_addPairs_108 rfl K
              · replace K := K.2 c126
                refine mw_iload (pc' := 95) dX8_addPairs_93 rfl rfl ?_
                refine mw_if_eq (pc' := 98) (tgt := 108) dX8_addPairs_95 rfl (by decide) (fun c125 => ?_) (fun c125 => ?_)
                · replace K := K.1 c125
                  exact mw_ret dX8_addPairs_108 rfl K
                · replace K := K.2 c125
                  refine mw_aload_n (pc' := 99) dX8_addPairs_98 rfl rfl ?_
                  refine mw_getR (pc' := 102) dX8_addPairs_99 rfl flX8_24 rfl (skT_41 hS) ?_
                  rw [skR_41_11 hS]
                  refine mw_iconst (pc' := 103) (v := 0) dX8_addPairs_102 rfl (by decide) ?_
                  refine mw_dup2 (pc' := 104) dX8_addPairs_103 rfl ?_
                  obtain ⟨o122, K⟩ := K
                  refine mw_ialdL (pc' := 105) dX8_addPairs_104 rfl (skT_46 hS) (skL_46 hS) o122 ?_
                  refine mw_iconst (pc' := 106) (v := 1) dX8_addPairs_105 rfl (by decide) ?_
                  refine mw_iadd (pc' := 107) dX8_addPairs_106 rfl ?_
                  obtain ⟨o123, K⟩ := K
                  refine mw_iastK (pc' := 108) dX8_addPairs_107 rfl (skT_46 hS) (skL_46 hS) o123 hS (fun h124 eh124 hS => ?_)
                  replace K := K h124 eh124
                  exact mw_ret dX8_addPairs_108 rfl K
    · replace K := K.2 c199
      refine mw_aload_n (pc' := 36) dX8_addPairs_35 rfl rfl ?_
      refine mw_getR (pc' := 39) dX8_addPairs_36 rfl flX8_24 rfl (skT_41 hS) ?_
      rw [skR_41_11 hS]
      refine mw_iload_n (pc' := 40) dX8_addPairs_39 rfl rfl ?_
      refine mw_iload (pc' := 42) dX8_addPairs_40 rfl rfl ?_
      refine mw_iadd (pc' := 43) dX8_addPairs_42 rfl ?_
      refine mw_dup2 (pc' := 44) dX8_addPairs_43 rfl ?_
      obtain ⟨o131, K⟩ := K
      refine mw_ialdL (pc' := 45) dX8_addPairs_44 rfl (skT_46 hS) (skL_46 hS) o131 ?_
      refine mw_iconst (pc' := 46) (v := 1) dX8_addPairs_45 rfl (by decide) ?_
      refine mw_iadd (pc' := 47) dX8_addPairs_46 rfl ?_
      obtain ⟨o132, K⟩ := K
      refine mw_iastK (pc' := 48) dX8_addPairs_47 rfl (skT_46 hS) (skL_46 hS) o132 hS (fun h133 eh133 hS => ?_)
      replace K := K h133 eh133
      refine mw_iload_n (pc' := 49) dX8_addPairs_48 rfl rfl ?_
      refine mw_if_le (pc' := 52) (tgt := 67) dX8_addPairs_49 rfl (by decide) (fun c198 => ?_) (fun c198 => ?_)
      · replace K := K.1 c198
        refine mw_iload (pc' := 69) dX8_addPairs_67 rfl rfl ?_
        refine mw_if_eq (pc' := 72) (tgt := 88) dX8_addPairs_69 rfl (by decide) (fun c153 => ?_) (fun c153 => ?_)
        · replace K := K.1 c153
          refine mw_iload (pc' := 90) dX8_addPairs_88 rfl rfl ?_
          refine mw_if_eq (pc' := 93) (tgt := 108) dX8_addPairs_90 rfl (by decide) (fun c138 => ?_) (fun c138 => ?_)
          · replace K := K.1 c138
            exact mw_ret dX8_addPairs_108 rfl K
          · replace K := K.2 c138
            refine mw_iload (pc' := 95) dX8_addPairs_93 rfl rfl ?_
            refine mw_if_eq (pc' := 98) (tgt := 108) dX8_addPairs_95 rfl (by decide) (fun c137 => ?_) (fun c137 => ?_)
            · replace K := K.1 c137
              exact mw_ret dX8_addPairs_108 rfl K
            · replace K := K.2 c137
              refine mw_aload_n (pc' := 99) dX8_addPairs_98 rfl rfl ?_
              refine mw_getR (pc' := 102) dX8_addPairs_99 rfl flX8_24 rfl (skT_41 hS) ?_
              rw [skR_41_11 hS]
              refine mw_iconst (pc' := 103) (v := 0) dX8_addPairs_102 rfl (by decide) ?_
              refine mw_dup2 (pc' := 104) dX8_addPairs_103 rfl ?_
              obtain ⟨o134, K⟩ := K
              refine mw_ialdL (pc' := 105) dX8_addPairs_104 rfl (skT_46 hS) (skL_46 hS) o134 ?_
              refine mw_iconst (pc' := 106) (v := 1) dX8_addPairs_105 rfl (by decide) ?_
              refine mw_iadd (pc' := 107) dX8_addPairs_106 rfl ?_
              obtain ⟨o135, K⟩ := K
              refine mw_iastK (pc' := 108) dX8_addPairs_107 rfl (skT_46 hS) (skL_46 hS) o135 hS (fun h136 eh136 hS => ?_)
              replace K := K h136 eh136
              exact mw_ret dX8_addPairs_108 rfl K
        · replace K := K.2 c153
          refine mw_iload (pc' := 74) dX8_addPairs_72 rfl rfl ?_
          refine mw_if_le (pc' := 77) (tgt := 88) dX8_addPairs_74 rfl (by decide) (fun c152 => ?_) (fun c152 => ?_)
          · replace K := K.1 c152
            refine mw_iload (pc' := 90) dX8_addPairs_88 rfl rfl ?_
            refine mw_if_eq (pc' := 93) (tgt := 108) dX8_addPairs_90 rfl (by decide) (fun c143 => ?_) (fun c143 => ?_)
            · replace K := K.1 c143
              exact mw_ret dX8_addPairs_108 rfl K
            · replace K := K.2 c143
              refine mw_iload (pc' := 95) dX8_addPairs_93 rfl rfl ?_
              refine mw_if_eq (pc' := 98) (tgt := 108) dX8_addPairs_95 rfl (by decide) (fun c142 => ?_) (fun c142 => ?_)
              · replace K := K.1 c142
                exact mw_ret dX8_addPairs_108 rfl K
              · replace K := K.2 c142
                refine mw_aload_n (pc' := 99) dX8_addPairs_98 rfl rfl ?_
                refine mw_getR (pc' := 102) dX8_addPairs_99 rfl flX8_24 rfl (skT_41 hS) ?_
                rw [skR_41_11 hS]
                refine mw_iconst (pc' := 103) (v := 0) dX8_addPairs_102 rfl (by decide) ?_
                refine mw_dup2 (pc' := 104) dX8_addPairs_103 rfl ?_
                obtain ⟨o139, K⟩ := K
                refine mw_ialdL (pc' := 105) dX8_addPairs_104 rfl (skT_46 hS) (skL_46 hS) o139 ?_
                refine mw_iconst (pc' := 106) (v := 1) dX8_addPairs_105 rfl (by decide) ?_
                refine mw_iadd (pc' := 107) dX8_addPairs_106 rfl ?_
                obtain ⟨o140, K⟩ := K
                refine mw_iastK (pc' := 108) dX8_addPairs_107 rfl (skT_46 hS) (skL_46 hS) o140 hS (fun h141 eh141 hS => ?_)
                replace K := K h141 eh141
                exact mw_ret dX8_addPairs_108 rfl K
          · replace K := K.2 c152
            refine mw_aload_n (pc' := 78) dX8_addPairs_77 rfl rfl ?_
            refine mw_getR (pc' := 81) dX8_addPairs_78 rfl flX8_24 rfl (skT_41 hS) ?_
            rw [skR_41_11 hS]
            refine mw_iload (pc' := 83) dX8_addPairs_81 rfl rfl ?_
            refine mw_dup2 (pc' := 84) dX8_addPairs_83 rfl ?_
            obtain ⟨o144, K⟩ := K
            refine mw_ialdL (pc' := 85) dX8_addPairs_84 rfl (skT_46 hS) (skL_46 hS) o144 ?_
            refine mw_iconst (pc' := 86) (v := 1) dX8_addPairs_85 rfl (by decide) ?_
            refine mw_iadd (pc' := 87) dX8_addPairs_86 rfl ?_
            obtain ⟨o145, K⟩ := K
            refine mw_iastK (pc' := 88) dX8_addPairs_87 rfl (skT_46 hS) (skL_46 hS) o145 hS (fun h146 eh146 hS => ?_)
            replace K := K h146 eh146
            refine mw_iload (pc' := 90) dX8_addPairs_88 rfl rfl ?_
            refine mw_if_eq (pc' := 93) (tgt := 108) dX8_addPairs_90 rfl (by decide) (fun c151 => ?_) (fun c151 => ?_)
            · replace K := K.1 c151
              exact mw_ret dX8_addPairs_108 rfl K
            · replace K := K.2 c151
              refine mw_iload (pc' := 95) dX8_addPairs_93 rfl rfl ?_
              refine mw_if_eq (pc' := 98) (tgt := 108) dX8_addPairs_95 rfl (by decide) (fun c150 => ?_) (fun c150 => ?_)
              · replace K := K.1 c150
                exact mw_ret dX8_addPairs_108 rfl K
              · replace K := K.2 c150
                refine mw_aload_n (pc' := 99) dX8_addPairs_98 rfl rfl ?_
                refine mw_getR (pc' := 102) dX8_addPairs_99 rfl flX8_24 rfl (skT_41 hS) ?_
                rw [skR_41_11 hS]
                refine mw_iconst (pc' := 103) (v := 0) dX8_addPairs_102 rfl (by decide) ?_
                refine mw_dup2 (pc' := 104) dX8_addPairs_103 rfl ?_
                obtain ⟨o147, K⟩ := K
                refine mw_ialdL (pc' := 105) dX8_addPairs_104 rfl (skT_46 hS) (skL_46 hS) o147 ?_
                refine mw_iconst (pc' := 106) (v := 1) dX8_addPairs_105 rfl (by decide) ?_
                refine mw_iadd (pc' := 107) dX8_addPairs_106 rfl ?_
                obtain ⟨o148, K⟩ := K
                refine mw_iastK (pc' := 108) dX8_addPairs_107 rfl (skT_46 hS) (skL_46 hS) o148 hS (fun h149 eh149 hS => ?_)
                replace K := K h149 eh149
                exact mw_ret dX8_addPairs_108 rfl K
      · replace K := K.2 c198
        refine mw_iload (pc' := 54) dX8_addPairs_52 rfl rfl ?_
        refine mw_if_eq (pc' := 57) (tgt := 67) dX8_addPairs_54 rfl (by decide) (fun c197 => ?_) (fun c197 => ?_)
        · replace K := K.1 c197
          refine mw_iload (pc' := 69) dX8_addPairs_67 rfl rfl ?_
          refine mw_if_eq (pc' := 72) (tgt := 88) dX8_addPairs_69 rfl (by decide) (fun c173 => ?_) (fun c173 => ?_)
          · replace K := K.1 c173
            refine mw_iload (pc' := 90) dX8_addPairs_88 rfl rfl ?_
            refine mw_if_eq (pc' := 93) (tgt := 108) dX8_addPairs_90 rfl (by decide) (fun c158 => ?_) (fun c158 => ?_)
            · replace K := K.1 c158
              exact mw_ret dX8_addPairs_108 rfl K
            · replace K := K.2 c158
              refine mw_iload (pc' := 95) dX8_addPairs_93 rfl rfl ?_
              refine mw_if_eq (pc' := 98) (tgt := 108) dX8_addPairs_95 rfl (by decide) (fun c157 => ?_) (fun c157 => ?_)
              · replace K := K.1 c157
                exact mw_ret dX8_addPairs_108 rfl K
              · replace K := K.2 c157
                refine mw_aload_n (pc' := 99) dX8_addPairs_98 rfl rfl ?_
                refine mw_getR (pc' := 102) dX8_addPairs_99 rfl flX8_24 rfl (skT_41 hS) ?_
                rw [skR_41_11 hS]
                refine mw_iconst (pc' := 103) (v := 0) dX8_addPairs_102 rfl (by decide) ?_
                refine mw_dup2 (pc' := 104) dX8_addPairs_103 rfl ?_
                obtain ⟨o154, K⟩ := K
                refine mw_ialdL (pc' := 105) dX8_addPairs_104 rfl (skT_46 hS) (skL_46 hS) o154 ?_
                refine mw_iconst (pc' := 106) (v := 1) dX8_addPairs_105 rfl (by decide) ?_
                refine mw_iadd (pc' := 107) dX8_addPairs_106 rfl ?_
                obtain ⟨o155, K⟩ := K
                refine mw_iastK (pc' := 108) dX8_addPairs_107 rfl (skT_46 hS) (skL_46 hS) o155 hS (fun h156 eh156 hS => ?_)
                replace K := K h156 eh156
                exact mw_ret dX8_addPairs_108 rfl K
          · replace K := K.2 c173
            refine mw_iload (pc' := 74) dX8_addPairs_72 rfl rfl ?_
            refine mw_if_le (pc' := 77) (tgt := 88) dX8_addPairs_74 rfl (by decide) (fun c172 => ?_) (fun c172 => ?_)
            · replace K := K.1 c172
              refine mw_iload (pc' := 90) dX8_addPairs_88 rfl rfl ?_
              refine mw_if_eq (pc' := 93) (tgt := 108) dX8_addPairs_90 rfl (by decide) (fun c163 => ?_) (fun c163 => ?_)
              · replace K := K.1 c163
                exact mw_ret dX8_addPairs_108 rfl K
              · replace K := K.2 c163
                refine mw_iload (pc' := 95) dX8_addPairs_93 rfl rfl ?_
                refine mw_if_eq (pc' := 98) (tgt := 108) dX8_addPairs_95 rfl (by decide) (fun c162 => ?_) (fun c162 => ?_)
                · replace K := K.1 c162
                  exact mw_ret dX8_addPairs_108 rfl K
                · replace K := K.2 c162
                  refine mw_aload_n (pc' := 99) dX8_addPairs_98 rfl rfl ?_
                  refine mw_getR (pc' := 102) dX8_addPairs_99 rfl flX8_24 rfl (skT_41 hS) ?_
                  rw [skR_41_11 hS]
                  refine mw_iconst (pc' := 103) (v := 0) dX8_addPairs_102 rfl (by decide) ?_
                  refine mw_dup2 (pc' := 104) dX8_addPairs_103 rfl ?_
                  obtain ⟨o159, K⟩ := K
                  refine mw_ialdL (pc' := 105) dX8_addPairs_104 rfl (skT_46 hS) (skL_46 hS) o159 ?_
                  refine mw_iconst (pc' := 106) (v := 1) dX8_addPairs_105 rfl (by decide) ?_
                  refine mw_iadd (pc' := 107) dX8_addPairs_106 rfl ?_
                  obtain ⟨o160, K⟩ := K
                  refine mw_iastK (pc' := 108) dX8_addPairs_107 rfl (skT_46 hS) (skL_46 hS) o160 hS (fun h161 eh161 hS => ?_)
                  replace K := K h161 eh161
                  exact mw_ret dX8_addPairs_108 rfl K
            · replace K := K.2 c172
              refine mw_aload_n (pc' := 78) dX8_addPairs_77 rfl rfl ?_
              refine mw_getR (pc' := 81) dX8_addPairs_78 rfl flX8_24 rfl (skT_41 hS) ?_
              rw [skR_41_11 hS]
              refine mw_iload (pc' := 83) dX8_addPairs_81 rfl rfl ?_
              refine mw_dup2 (pc' := 84) dX8_addPairs_83 rfl ?_
              obtain ⟨o164, K⟩ := K
              refine mw_ialdL (pc' := 85) dX8_addPairs_84 rfl (skT_46 hS) (skL_46 hS) o164 ?_
              refine mw_iconst (pc' := 86) (v := 1) dX8_addPairs_85 rfl (by decide) ?_
              refine mw_iadd (pc' := 87) dX8_addPairs_86 rfl ?_
              obtain ⟨o165, K⟩ := K
              refine mw_iastK (pc' := 88) dX8_addPairs_87 rfl (skT_46 hS) (skL_46 hS) o165 hS (fun h166 eh166 hS => ?_)
              replace K := K h166 eh166
              refine mw_iload (pc' := 90) dX8_addPairs_88 rfl rfl ?_
              refine mw_if_eq (pc' := 93) (tgt := 108) dX8_addPairs_90 rfl (by decide) (fun c171 => ?_) (fun c171 => ?_)
              · replace K := K.1 c171
                exact mw_ret dX8_addPairs_108 rfl K
              · replace K := K.2 c171
                refine mw_iload (pc' := 95) dX8_addPairs_93 rfl rfl ?_
                refine mw_if_eq (pc' := 98) (tgt := 108) dX8_addPairs_95 rfl (by decide) (fun c170 => ?_) (fun c170 => ?_)
                · replace K := K.1 c170
                  exact mw_ret dX8_addPairs_108 rfl K
                · replace K := K.2 c170
                  refine mw_aload_n (pc' := 99) dX8_addPairs_98 rfl rfl ?_
                  refine mw_getR (pc' := 102) dX8_addPairs_99 rfl flX8_24 rfl (skT_41 hS) ?_
                  rw [skR_41_11 hS]
                  refine mw_iconst (pc' := 103) (v := 0) dX8_addPairs_102 rfl (by decide) ?_
                  refine mw_dup2 (pc' := 104) dX8_addPairs_103 rfl ?_
                  obtain ⟨o167, K⟩ := K
                  refine mw_ialdL (pc' := 105) dX8_addPairs_104 rfl (skT_46 hS) (skL_46 hS) o167 ?_
                  refine mw_iconst (pc' := 106) (v := 1) dX8_addPairs_105 rfl (by decide) ?_
                  refine mw_iadd (pc' := 107) dX8_addPairs_106 rfl ?_
                  obtain ⟨o168, K⟩ := K
                  refine mw_iastK (pc' := 108) dX8_addPairs_107 rfl (skT_46 hS) (skL_46 hS) o168 hS (fun h169 eh169 hS => ?_)
                  replace K := K h169 eh169
                  exact mw_ret dX8_addPairs_108 rfl K
        · replace K := K.2 c197
          refine mw_aload_n (pc' := 58) dX8_addPairs_57 rfl rfl ?_
          refine mw_getR (pc' := 61) dX8_addPairs_58 rfl flX8_24 rfl (skT_41 hS) ?_
          rw [skR_41_11 hS]
          refine mw_iload_n (pc' := 62) dX8_addPairs_61 rfl rfl ?_
          refine mw_dup2 (pc' := 63) dX8_addPairs_62 rfl ?_
          obtain ⟨o174, K⟩ := K
          refine mw_ialdL (pc' := 64) dX8_addPairs_63 rfl (skT_46 hS) (skL_46 hS) o174 ?_
          refine mw_iconst (pc' := 65) (v := 1) dX8_addPairs_64 rfl (by decide) ?_
          refine mw_iadd (pc' := 66) dX8_addPairs_65 rfl ?_
          obtain ⟨o175, K⟩ := K
          refine mw_iastK (pc' := 67) dX8_addPairs_66 rfl (skT_46 hS) (skL_46 hS) o175 hS (fun h176 eh176 hS => ?_)
          replace K := K h176 eh176
          refine mw_iload (pc' := 69) dX8_addPairs_67 rfl rfl ?_
          refine mw_if_eq (pc' := 72) (tgt := 88) dX8_addPairs_69 rfl (by decide) (fun c196 => ?_) (fun c196 => ?_)
          · replace K := K.1 c196
            refine mw_iload (pc' := 90) dX8_addPairs_88 rfl rfl ?_
            refine mw_if_eq (pc' := 93) (tgt := 108) dX8_addPairs_90 rfl (by decide) (fun c181 => ?_) (fun c181 => ?_)
            · replace K := K.1 c181
              exact mw_ret dX8_addPairs_108 rfl K
            · replace K := K.2 c181
              refine mw_iload (pc' := 95) dX8_addPairs_93 rfl rfl ?_
              refine mw_if_eq (pc' := 98) (tgt := 108) dX8_addPairs_95 rfl (by decide) (fun c180 => ?_) (fun c180 => ?_)
              · replace K := K.1 c180
                exact mw_ret dX8_addPairs_108 rfl K
              · replace K := K.2 c180
                refine mw_aload_n (pc' := 99) dX8_addPairs_98 rfl rfl ?_
                refine mw_getR (pc' := 102) dX8_addPairs_99 rfl flX8_24 rfl (skT_41 hS) ?_
                rw [skR_41_11 hS]
                refine mw_iconst (pc' := 103) (v := 0) dX8_addPairs_102 rfl (by decide) ?_
                refine mw_dup2 (pc' := 104) dX8_addPairs_103 rfl ?_
                obtain ⟨o177, K⟩ := K
                refine mw_ialdL (pc' := 105) dX8_addPairs_104 rfl (skT_46 hS) (skL_46 hS) o177 ?_
                refine mw_iconst (pc' := 106) (v := 1) dX8_addPairs_105 rfl (by decide) ?_
                refine mw_iadd (pc' := 107) dX8_addPairs_106 rfl ?_
                obtain ⟨o178, K⟩ := K
                refine mw_iastK (pc' := 108) dX8_addPairs_107 rfl (skT_46 hS) (skL_46 hS) o178 hS (fun h179 eh179 hS => ?_)
                replace K := K h179 eh179
                exact mw_ret dX8_addPairs_108 rfl K
          · replace K := K.2 c196
            refine mw_iload (pc' := 74) dX8_addPairs_72 rfl rfl ?_
            refine mw_if_le (pc' := 77) (tgt := 88) dX8_addPairs_74 rfl (by decide) (fun c195 => ?_) (fun c195 => ?_)
            · replace K := K.1 c195
              refine mw_iload (pc' := 90) dX8_addPairs_88 rfl rfl ?_
              refine mw_if_eq (pc' := 93) (tgt := 108) dX8_addPairs_90 rfl (by decide) (fun c186 => ?_) (fun c186 => ?_)
              · replace K := K.1 c186
                exact mw_ret dX8_addPairs_108 rfl K
              · replace K := K.2 c186
                refine mw_iload (pc' := 95) dX8_addPairs_93 rfl rfl ?_
                refine mw_if_eq (pc' := 98) (tgt := 108) dX8_addPairs_95 rfl (by decide) (fun c185 => ?_) (fun c185 => ?_)
                · replace K := K.1 c185
                  exact mw_ret dX8_addPairs_108 rfl K
                · replace K := K.2 c185
                  refine mw_aload_n (pc' := 99) dX8_addPairs_98 rfl rfl ?_
                  refine mw_getR (pc' := 102) dX8_addPairs_99 rfl flX8_24 rfl (skT_41 hS) ?_
                  rw [skR_41_11 hS]
                  refine mw_iconst (pc' := 103) (v := 0) dX8_addPairs_102 rfl (by decide) ?_
                  refine mw_dup2 (pc' := 104) dX8_addPairs_103 rfl ?_
                  obtain ⟨o182, K⟩ := K
                  refine mw_ialdL (pc' := 105) dX8_addPairs_104 rfl (skT_46 hS) (skL_46 hS) o182 ?_
                  refine mw_iconst (pc' := 106) (v := 1) dX8_addPairs_105 rfl (by decide) ?_
                  refine mw_iadd (pc' := 107) dX8_addPairs_106 rfl ?_
                  obtain ⟨o183, K⟩ := K
                  refine mw_iastK (pc' := 108) dX8_addPairs_107 rfl (skT_46 hS) (skL_46 hS) o183 hS (fun h184 eh184 hS => ?_)
                  replace K := K h184 eh184
                  exact mw_ret dX8_addPairs_108 rfl K
            · replace K := K.2 c195
              refine mw_aload_n (pc' := 78) dX8_addPairs_77 rfl rfl ?_
              refine mw_getR (pc' := 81) dX8_addPairs_78 rfl flX8_24 rfl (skT_41 hS) ?_
              rw [skR_41_11 hS]
              refine mw_iload (pc' := 83) dX8_addPairs_81 rfl rfl ?_
              refine mw_dup2 (pc' := 84) dX8_addPairs_83 rfl ?_
              obtain ⟨o187, K⟩ := K
              refine mw_ialdL (pc' := 85) dX8_addPairs_84 rfl (skT_46 hS) (skL_46 hS) o187 ?_
              refine mw_iconst (pc' := 86) (v := 1) dX8_addPairs_85 rfl (by decide) ?_
              refine mw_iadd (pc' := 87) dX8_addPairs_86 rfl ?_
              obtain ⟨o188, K⟩ := K
              refine mw_iastK (pc' := 88) dX8_addPairs_87 rfl (skT_46 hS) (skL_46 hS) o188 hS (fun h189 eh189 hS => ?_)
              replace K := K h189 eh189
              refine mw_iload (pc' := 90) dX8_addPairs_88 rfl rfl ?_
              refine mw_if_eq (pc' := 93) (tgt := 108) dX8_addPairs_90 rfl (by decide) (fun c194 => ?_) (fun c194 => ?_)
              · replace K := K.1 c194
                exact mw_ret dX8_addPairs_108 rfl K
              · replace K := K.2 c194
                refine mw_iload (pc' := 95) dX8_addPairs_93 rfl rfl ?_
                refine mw_if_eq (pc' := 98) (tgt := 108) dX8_addPairs_95 rfl (by decide) (fun c193 => ?_) (fun c193 => ?_)
                · replace K := K.1 c193
                  exact mw_ret dX8_addPairs_108 rfl K
                · replace K := K.2 c193
                  refine mw_aload_n (pc' := 99) dX8_addPairs_98 rfl rfl ?_
                  refine mw_getR (pc' := 102) dX8_addPairs_99 rfl flX8_24 rfl (skT_41 hS) ?_
                  rw [skR_41_11 hS]
                  refine mw_iconst (pc' := 103) (v := 0) dX8_addPairs_102 rfl (by decide) ?_
                  refine mw_dup2 (pc' := 104) dX8_addPairs_103 rfl ?_
                  obtain ⟨o190, K⟩ := K
                  refine mw_ialdL (pc' := 105) dX8_addPairs_104 rfl (skT_46 hS) (skL_46 hS) o190 ?_
                  refine mw_iconst (pc' := 106) (v := 1) dX8_addPairs_105 rfl (by decide) ?_
                  refine mw_iadd (pc' := 107) dX8_addPairs_106 rfl ?_
                  obtain ⟨o191, K⟩ := K
                  refine mw_iastK (pc' := 108) dX8_addPairs_107 rfl (skT_46 hS) (skL_46 hS) o191 hS (fun h192 eh192 hS => ?_)
                  replace K := K h192 eh192
                  exact mw_ret dX8_addPairs_108 rfl K
