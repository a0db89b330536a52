set_option maxRecDepth 100000 in
set_option maxHeartbeats 4000000 in
theorem qX12_lands {G : mG} {d : Nat} {b : Nat × Nat} {h : mH} {Q : Option mV → mH → Prop} (v1 : Int32) (hS : mSk h)
    (K : mW G kX12_lands (d + 1) b 0 [some (.inr (some 47)), some (.inl v1), none] [] h Q) : mC G kX12_lands (d + 1) b [.inr (some 47), .inl v1] h Q := by
  refine mC_in rfl (Nat.le_of_ble_eq_true rfl) ?_
  show mW _ _ _ _ _ [some (.inr (some 47)), some (.inl v1), none] _ _ _
  exact K

set_option maxRecDepth 100000 in
set_option maxHeartbeats 4000000 in
theorem qX12_lands_0 {G : mG} {d : Nat} {b : Nat × Nat} {h : mH} {Q : Option mV → mH → Prop} (v1 : Int32) (hS : mSk h)
    (K : mC G kX12_top d (0, 0) [.inr (some 47)] h (fun r h1 => ∃ x2, r = some (.inl x2) ∧ mSk h1 ∧ ((x2 = 11 → vp_in ((mI h1 47 18) - 1) 180 ∧ vp_in (m_rem (mI h1 59 ((mI h1 47 18) - 1).toNatClampNeg) 1048576) 180 ∧ vp_in (m_rem (mI h1 59 ((mI h1 47 18) - 1).toNatClampNeg) 1048576) 180 ∧ ∀ h6, h6 = mSI h1 58 (m_rem (mI h1 59 ((mI h1 47 18) - 1).toNatClampNeg) 1048576).toNatClampNeg ((1048576 * ((mI h1 58 (m_rem (mI h1 59 ((mI h1 47 18) - 1).toNatClampNeg) 1048576).toNatClampNeg) / 1048576)) + (mI h1 47 17)) → ∀ h7, h7 = mSI h6 47 18 ((mI h6 47 18) - 1) → mW G kX12_lands (d + 1) b 0 [some (.inr (some 47)), some (.inl v1), none] [] h7 Q) ∧ (¬ x2 = 11 → ((v1 = 0 → Q none h1) ∧ (¬ v1 = 0 → mC G kX12_top d (0, 0) [.inr (some 47)] h1 (fun r h8 => ∃ x9, r = some (.inl x9) ∧ mSk h8 ∧ ((¬ x9 = 12 → Q none h8) ∧ (x9 = 12 → vp_in ((mI h8 47 18) - 1) 180 ∧ vp_in (m_rem (mI h8 59 ((mI h8 47 18) - 1).toNatClampNeg) 1048576) 180 ∧ vp_in (m_rem (mI h8 59 ((mI h8 47 18) - 1).toNatClampNeg) 1048576) 180 ∧ ∀ h13, h13 = mSI h8 58 (m_rem (mI h8 59 ((mI h8 47 18) - 1).toNatClampNeg) 1048576).toNatClampNeg ((1048576 * ((mI h8 58 (m_rem (mI h8 59 ((mI h8 47 18) - 1).toNatClampNeg) 1048576).toNatClampNeg) / 1048576)) + (mI h8 47 17)) → ∀ h14, h14 = mSI h13 47 18 ((mI h13 47 18) - 1) → mW G kX12_lands (d + 1) b 0 [some (.inr (some 47)), some (.inl v1), none] [] h14 Q))))))))) : mW G kX12_lands (d + 1) b 0 [some (.inr (some 47)), some (.inl v1), none] [] h Q := by
  refine mw_aload_n (pc' := 1) dX12_lands_0 rfl rfl ?_
  refine mw_callV (pc' := 4) (b' := (0, 0)) (b1 := b) (av := []) (rest := []) dX12_lands_1 rfl lkX12_257 rfl rfl (Nat.le_of_ble_eq_true rfl) ⟨Nat.le_of_eq (Nat.zero_add _), Nat.le_of_eq (Nat.zero_add _)⟩ (skT_47 hS) ?_
  refine mC_mono (fun r h1 hr => ?_) K
  obtain ⟨x2, rfl, hS, K⟩ := hr
  show mW _ _ _ _ _ _ [.inl x2] _ _
  refine mw_bipush (pc' := 6) (v := 11) dX12_lands_4 rfl (by decide) ?_
  refine mw_icmp_eq (pc' := 9) (tgt := 22) dX12_lands_6 rfl (by decide) (fun c17 => ?_) (fun c17 => ?_)
  · replace K := K.1 c17
    refine mw_aload_n (pc' := 23) dX12_lands_22 rfl rfl ?_
    refine mw_getR (pc' := 26) dX12_lands_23 rfl flX12_45 rfl (skT_47 hS) ?_
    rw [skR_47_23 hS]
    refine mw_aload_n (pc' := 27) dX12_lands_26 rfl rfl ?_
    refine mw_getI (pc' := 30) dX12_lands_27 rfl flX12_254 rfl (skT_47 hS) ?_
    refine mw_iconst (pc' := 31) (v := 1) dX12_lands_30 rfl (by decide) ?_
    refine mw_isub (pc' := 32) dX12_lands_31 rfl ?_
    obtain ⟨o3, K⟩ := K
    refine mw_ialdL (pc' := 33) dX12_lands_32 rfl (skT_59 hS) (skL_59 hS) o3 ?_
    refine mw_ldc (pc' := 35) dX12_lands_33 rfl cnX12_250 ?_
    refine mw_iremM (pc' := 36) dX12_lands_35 rfl (by decide) ?_
    refine mw_istore_n (pc' := 37) dX12_lands_36 rfl (by decide) ?_
    show mW _ _ _ _ _ [some (.inr (some 47)), some (.inl v1), some (.inl (m_rem (mI h1 59 ((mI h1 47 18) - 1).toNatClampNeg) 1048576))] _ _ _
    refine mw_aload_n (pc' := 38) dX12_lands_37 rfl rfl ?_
    refine mw_getR (pc' := 41) dX12_lands_38 rfl flX12_42 rfl (skT_47 hS) ?_
    rw [skR_47_22 hS]
    refine mw_iload_n (pc' := 42) dX12_lands_41 rfl rfl ?_
    refine mw_ldc (pc' := 44) dX12_lands_42 rfl cnX12_250 ?_
    refine mw_aload_n (pc' := 45) dX12_lands_44 rfl rfl ?_
    refine mw_getR (pc' := 48) dX12_lands_45 rfl flX12_42 rfl (skT_47 hS) ?_
    rw [skR_47_22 hS]
    refine mw_iload_n (pc' := 49) dX12_lands_48 rfl rfl ?_
    obtain ⟨o4, K⟩ := K
    refine mw_ialdL (pc' := 50) dX12_lands_49 rfl (skT_58 hS) (skL_58 hS) o4 ?_
    refine mw_ldc (pc' := 52) dX12_lands_50 rfl cnX12_250 ?_
    refine mw_idiv (pc' := 53) dX12_lands_52 rfl (by decide) ?_
    refine mw_imul (pc' := 54) dX12_lands_53 rfl ?_
    refine mw_aload_n (pc' := 55) dX12_lands_54 rfl rfl ?_
    refine mw_getI (pc' := 58) dX12_lands_55 rfl flX12_247 rfl (skT_47 hS) ?_
    refine mw_iadd (pc' := 59) dX12_lands_58 rfl ?_
    obtain ⟨o5, K⟩ := K
    refine mw_iastK (pc' := 60) dX12_lands_59 rfl (skT_58 hS) (skL_58 hS) o5 hS (fun h6 eh6 hS => ?_)
    replace K := K h6 eh6
    refine mw_aload_n (pc' := 61) dX12_lands_60 rfl rfl ?_
    refine mw_aload_n (pc' := 62) dX12_lands_61 rfl rfl ?_
    refine mw_getI (pc' := 65) dX12_lands_62 rfl flX12_254 rfl (skT_47 hS) ?_
    refine mw_iconst (pc' := 66) (v := 1) dX12_lands_65 rfl (by decide) ?_
    refine mw_isub (pc' := 67) dX12_lands_66 rfl ?_
    refine mw_putIK (pc' := 70) dX12_lands_67 rfl flX12_254 rfl (Or.inl rfl) ⟨rfl, rfl⟩ (skT_47 hS) hS (fun h7 eh7 hS => ?_)
    replace K := K h7 eh7
    refine mw_goto (tgt := 0) dX12_lands_70 (by decide) ?_
    refine mw_weak (ls' := [some (.inr (some 47)), some (.inl v1), none]) ?_ ?_
    · intro i v hv; match i, hv with
      | 0, hv => exact hv
      | 1, hv => exact hv
      | 2, hv => cases hv
      | n + 3, hv => cases hv
    exact K
  · replace K := K.2 c17
    refine mw_iload_n (pc' := 10) dX12_lands_9 rfl rfl ?_
    refine mw_if_eq (pc' := 13) (tgt := 73) dX12_lands_10 rfl (by decide) (fun c16 => ?_) (fun c16 => ?_)
    · replace K := K.1 c16
      exact mw_ret dX12_lands_73 rfl K
    · replace K := K.2 c16
      refine mw_aload_n (pc' := 14) dX12_lands_13 rfl rfl ?_
      refine mw_callV (pc' := 17) (b' := (0, 0)) (b1 := b) (av := []) (rest := []) dX12_lands_14 rfl lkX12_257 rfl rfl (Nat.le_of_ble_eq_true rfl) ⟨Nat.le_of_eq (Nat.zero_add _), Nat.le_of_eq (Nat.zero_add _)⟩ (skT_47 hS) ?_
      refine mC_mono (fun r h8 hr => ?_) K
      obtain ⟨x9, rfl, hS, K⟩ := hr
      show mW _ _ _ _ _ _ [.inl x9] _ _
      refine mw_bipush (pc' := 19) (v := 12) dX12_lands_17 rfl (by decide) ?_
      refine mw_icmp_ne (pc' := 22) (tgt := 73) dX12_lands_19 rfl (by decide) (fun c15 => ?_) (fun c15 => ?_)
      · replace K := K.1 c15
        exact mw_ret dX12_lands_73 rfl K
      · replace K := K.2 c15
        refine mw_aload_n (pc' := 23) dX12_lands_22 rfl rfl ?_
        refine mw_getR (pc' := 26) dX12_lands_23 rfl flX12_45 rfl (skT_47 hS) ?_
        rw [skR_47_23 hS]
        refine mw_aload_n (pc' := 27) dX12_lands_26 rfl rfl ?_
        refine mw_getI (pc' := 30) dX12_lands_27 rfl flX12_254 rfl (skT_47 hS) ?_
        refine mw_iconst (pc' := 31) (v := 1) dX12_lands_30 rfl (by decide) ?_
        refine mw_isub (pc' := 32) dX12_lands_31 rfl ?_
        obtain ⟨o10, K⟩ := K
        refine mw_ialdL (pc' := 33) dX12_lands_32 rfl (skT_59 hS) (skL_59 hS) o10 ?_
        refine mw_ldc (pc' := 35) dX12_lands_33 rfl cnX12_250 ?_
        refine mw_iremM (pc' := 36) dX12_lands_35 rfl (by decide) ?_
        refine mw_istore_n (pc' := 37) dX12_lands_36 rfl (by decide) ?_
        show mW _ _ _ _ _ [some (.inr (some 47)), some (.inl v1), some (.inl (m_rem (mI h8 59 ((mI h8 47 18) - 1).toNatClampNeg) 1048576))] _ _ _
        refine mw_aload_n (pc' := 38) dX12_lands_37 rfl rfl ?_
        refine mw_getR (pc' := 41) dX12_lands_38 rfl flX12_42 rfl (skT_47 hS) ?_
        rw [skR_47_22 hS]
        refine mw_iload_n (pc' := 42) dX12_lands_41 rfl rfl ?_
        refine mw_ldc (pc' := 44) dX12_lands_42 rfl cnX12_250 ?_
        refine mw_aload_n (pc' := 45) dX12_lands_44 rfl rfl ?_
        refine mw_getR (pc' := 48) dX12_lands_45 rfl flX12_42 rfl (skT_47 hS) ?_
        rw [skR_47_22 hS]
        refine mw_iload_n (pc' := 49) dX12_lands_48 rfl rfl ?_
        obtain ⟨o11, K⟩ := K
        refine mw_ialdL (pc' := 50) dX12_lands_49 rfl (skT_58 hS) (skL_58 hS) o11 ?_
        refine mw_ldc (pc' := 52) dX12_lands_50 rfl cnX12_250 ?_
        refine mw_idiv (pc' := 53) dX12_lands_52 rfl (by decide) ?_
        refine mw_imul (pc' := 54) dX12_lands_53 rfl ?_
        refine mw_aload_n (pc' := 55) dX12_lands_54 rfl rfl ?_
        refine mw_getI (pc' := 58) dX12_lands_55 rfl flX12_247 rfl (skT_47 hS) ?_
        refine mw_iadd (pc' := 59) dX12_lands_58 rfl ?_
        obtain ⟨o12, K⟩ := K
        refine mw_iastK (pc' := 60) dX12_lands_59 rfl (skT_58 hS) (skL_58 hS) o12 hS (fun h13 eh13 hS => ?_)
        replace K := K h13 eh13
        refine mw_aload_n (pc' := 61) dX12_lands_60 rfl rfl ?_
        refine mw_aload_n (pc' := 62) dX12_lands_61 rfl rfl ?_
        refine mw_getI (pc' := 65) dX12_lands_62 rfl flX12_254 rfl (skT_47 hS) ?_
        refine mw_iconst (pc' := 66) (v := 1) dX12_lands_65 rfl (by decide) ?_
        refine mw_isub (pc' := 67) dX12_lands_66 rfl ?_
        refine mw_putIK (pc' := 70) dX12_lands_67 rfl flX12_254 rfl (Or.inl rfl) ⟨rfl, rfl⟩ (skT_47 hS) hS (fun h14 eh14 hS => ?_)
        replace K := K h14 eh14
        refine mw_goto (tgt := 0) dX12_lands_70 (by decide) ?_
        refine mw_weak (ls' := [some (.inr (some 47)), some (.inl v1), none]) ?_ ?_
        · intro i v hv; match i, hv with
          | 0, hv => exact hv
          | 1, hv => exact hv
          | 2, hv => cases hv
          | n + 3, hv => cases hv
        exact K

set_option maxRecDepth 100000 in
set_option maxHeartbeats 4000000 in
theorem qX12_jumps {G : mG} {d : Nat} {b : Nat × Nat} {h : mH} {Q : Option mV → mH → Prop} (v1 : Int32) (hS : mSk h)
    (K : vp_in (mI h 47 18) 180 ∧ ∀ h2, h2 = mSI h 59 (mI h 47 18).toNatClampNeg ((1048576 * v1) + (mI h 47 17)) → ∀ h3, h3 = mSI h2 47 18 ((mI h2 47 18) + 1) → mC G kX12_notes d (0, 0) [.inr (some 47), .inl v1, .inl 0] h3 (fun r h4 => r = none ∧ mSk h4 ∧ ∀ h5, h5 = mSI h4 47 13 ((mI h4 47 13) + 1) → Q none h5)) : mC G kX12_jumps (d + 1) b [.inr (some 47), .inl v1] h Q := by
  refine mC_in rfl (Nat.le_of_ble_eq_true rfl) ?_
  show mW _ _ _ _ _ [some (.inr (some 47)), some (.inl v1)] _ _ _
  refine mw_aload_n (pc' := 1) dX12_jumps_0 rfl rfl ?_
  refine mw_getR (pc' := 4) dX12_jumps_1 rfl flX12_45 rfl (skT_47 hS) ?_
  rw [skR_47_23 hS]
  refine mw_aload_n (pc' := 5) dX12_jumps_4 rfl rfl ?_
  refine mw_getI (pc' := 8) dX12_jumps_5 rfl flX12_254 rfl (skT_47 hS) ?_
  refine mw_ldc (pc' := 10) dX12_jumps_8 rfl cnX12_250 ?_
  refine mw_iload_n (pc' := 11) dX12_jumps_10 rfl rfl ?_
  refine mw_imul (pc' := 12) dX12_jumps_11 rfl ?_
  refine mw_aload_n (pc' := 13) dX12_jumps_12 rfl rfl ?_
  refine mw_getI (pc' := 16) dX12_jumps_13 rfl flX12_247 rfl (skT_47 hS) ?_
  refine mw_iadd (pc' := 17) dX12_jumps_16 rfl ?_
  obtain ⟨o1, K⟩ := K
  refine mw_iastK (pc' := 18) dX12_jumps_17 rfl (skT_59 hS) (skL_59 hS) o1 hS (fun h2 eh2 hS => ?_)
  replace K := K h2 eh2
  refine mw_aload_n (pc' := 19) dX12_jumps_18 rfl rfl ?_
  refine mw_aload_n (pc' := 20) dX12_jumps_19 rfl rfl ?_
  refine mw_getI (pc' := 23) dX12_jumps_20 rfl flX12_254 rfl (skT_47 hS) ?_
  refine mw_iconst (pc' := 24) (v := 1) dX12_jumps_23 rfl (by decide) ?_
  refine mw_iadd (pc' := 25) dX12_jumps_24 rfl ?_
  refine mw_putIK (pc' := 28) dX12_jumps_25 rfl flX12_254 rfl (Or.inl rfl) ⟨rfl, rfl⟩ (skT_47 hS) hS (fun h3 eh3 hS => ?_)
  replace K := K h3 eh3
  refine mw_aload_n (pc' := 29) dX12_jumps_28 rfl rfl ?_
  refine mw_iload_n (pc' := 30) dX12_jumps_29 rfl rfl ?_
  refine mw_iconst (pc' := 31) (v := 0) dX12_jumps_30 rfl (by decide) ?_
  refine mw_callV (pc' := 34) (b' := (0, 0)) (b1 := b) (av := [.inl v1, .inl 0]) (rest := []) dX12_jumps_31 rfl lkX12_260 rfl rfl (Nat.le_of_ble_eq_true rfl) ⟨Nat.le_of_eq (Nat.zero_add _), Nat.le_of_eq (Nat.zero_add _)⟩ (skT_47 hS) ?_
  refine mC_mono (fun r h4 hr => ?_) K
  obtain ⟨rfl, hS, K⟩ := hr
  show mW _ _ _ _ _ _ [] _ _
  refine mw_aload_n (pc' := 35) dX12_jumps_34 rfl rfl ?_
  refine mw_aload_n (pc' := 36) dX12_jumps_35 rfl rfl ?_
  refine mw_getI (pc' := 39) dX12_jumps_36 rfl flX12_224 rfl (skT_47 hS) ?_
  refine mw_iconst (pc' := 40) (v := 1) dX12_jumps_39 rfl (by decide) ?_
  refine mw_iadd (pc' := 41) dX12_jumps_40 rfl ?_
  refine mw_putIK (pc' := 44) dX12_jumps_41 rfl flX12_224 rfl (Or.inl rfl) ⟨rfl, rfl⟩ (skT_47 hS) hS (fun h5 eh5 hS => ?_)
  replace K := K h5 eh5
  exact mw_ret dX12_jumps_44 rfl K

set_option maxRecDepth 100000 in
set_option maxHeartbeats 4000000 in
theorem qX12_readsCompared {G : mG} {d : Nat} {b : Nat × Nat} {h : mH} {Q : Option mV → mH → Prop}  (hS : mSk h)
    (K : mC G kX12_readsSum (d + 4) (0, 0) [.inr (some 47)] h (fun r h1 => ∃ x2, r = some (.inl x2) ∧ mSk h1 ∧ ((¬ x2 = 0 → mC G kX12_here (d + 4) (0, 0) [.inr (some 47)] h1 (fun r h3 => ∃ x4, r = some (.inl x4) ∧ mSk h3 ∧ ((¬ x4 = 60 → mC G kX12_here (d + 4) (0, 0) [.inr (some 47)] h3 (fun r h5 => ∃ x6, r = some (.inl x6) ∧ mSk h5 ∧ ((¬ x6 = 62 → mC G kX12_here (d + 4) (0, 0) [.inr (some 47)] h5 (fun r h7 => ∃ x8, r = some (.inl x8) ∧ mSk h7 ∧ ∀ w9 : Int32, w9 = (if ¬ x8 = 61 then (-1) else 9) → ((¬ w9 = (-1) → ∀ h10, h10 = mSI h7 47 13 ((mI h7 47 13) + 1) → mC G kX12_readsSum (d + 4) (0, 0) [.inr (some 47)] h10 (fun r h11 => ∃ x12, r = some (.inl x12) ∧ mSk h11 ∧ ((¬ x12 = 0 → mC G kX12_notes (d + 4) (0, 0) [.inr (some 47), .inl w9, .inl 0] h11 (fun r h13 => r = none ∧ mSk h13 ∧ mC G kX12_endsPiece (d + 4) (0, 0) [.inr (some 47)] h13 (fun r h14 => r = none ∧ mSk h14 ∧ Q (some (.inl 1)) h14))) ∧ (x12 = 0 → Q (some (.inl 0)) h11)))) ∧ (w9 = (-1) → mC G kX12_wrongAt (d + 4) (0, 0) [.inr (some 47), .inl 1, .inl (mI h7 47 13)] h7 (fun r h16 => ∃ x17, r = some (.inl x17) ∧ mSk h16 ∧ m_bool x17 ∧ Q (some (.inl x17)) h16))))) ∧ (x6 = 62 → ((¬ (8 : Int32) = (-1) → ∀ h22, h22 = mSI h5 47 13 ((mI h5 47 13) + 1) → mC G kX12_readsSum (d + 4) (0, 0) [.inr (some 47)] h22 (fun r h23 => ∃ x24, r = some (.inl x24) ∧ mSk h23 ∧ ((¬ x24 = 0 → mC G kX12_notes (d + 4) (0, 0) [.inr (some 47), .inl 8, .inl 0] h23 (fun r h25 => r = none ∧ mSk h25 ∧ mC G kX12_endsPiece (d + 4) (0, 0) [.inr (some 47)] h25 (fun r h26 => r = none ∧ mSk h26 ∧ Q (some (.inl 1)) h26))) ∧ (x24 = 0 → Q (some (.inl 0)) h23)))) ∧ ((8 : Int32) = (-1) → mC G kX12_wrongAt (d + 4) (0, 0) [.inr (some 47), .inl 1, .inl (mI h5 47 13)] h5 (fun r h28 => ∃ x29, r = some (.inl x29) ∧ mSk h28 ∧ m_bool x29 ∧ Q (some (.inl x29)) h28))))))) ∧ (x4 = 60 → ((¬ (7 : Int32) = (-1) → ∀ h33, h33 = mSI h3 47 13 ((mI h3 47 13) + 1) → mC G kX12_readsSum (d + 4) (0, 0) [.inr (some 47)] h33 (fun r h34 => ∃ x35, r = some (.inl x35) ∧ mSk h34 ∧ ((¬ x35 = 0 → mC G kX12_notes (d + 4) (0, 0) [.inr (some 47), .inl 7, .inl 0] h34 (fun r h36 => r = none ∧ mSk h36 ∧ mC G kX12_endsPiece (d + 4) (0, 0) [.inr (some 47)] h36 (fun r h37 => r = none ∧ mSk h37 ∧ Q (some (.inl 1)) h37))) ∧ (x35 = 0 → Q (some (.inl 0)) h34)))) ∧ ((7 : Int32) = (-1) → mC G kX12_wrongAt (d + 4) (0, 0) [.inr (some 47), .inl 1, .inl (mI h3 47 13)] h3 (fun r h39 => ∃ x40, r = some (.inl x40) ∧ mSk h39 ∧ m_bool x40 ∧ Q (some (.inl x40)) h39))))))) ∧ (x2 = 0 → Q (some (.inl 0)) h1)))) : mC G kX12_readsCompared (d + 5) b [.inr (some 47)] h Q := by
  refine mC_in rfl (Nat.le_of_ble_eq_true rfl) ?_
  show mW _ _ _ _ _ [some (.inr (some 47)), none] _ _ _
  refine mw_aload_n (pc' := 1) dX12_readsCompared_0 rfl rfl ?_
  refine mw_callV (pc' := 4) (b' := (0, 0)) (b1 := b) (av := []) (rest := []) dX12_readsCompared_1 rfl lkX12_286 rfl rfl (Nat.le_of_ble_eq_true rfl) ⟨Nat.le_of_eq (Nat.zero_add _), Nat.le_of_eq (Nat.zero_add _)⟩ (skT_47 hS) ?_
  refine mC_mono (fun r h1 hr => ?_) K
  obtain ⟨x2, rfl, hS, K⟩ := hr
  show mW _ _ _ _ _ _ [.inl x2] _ _
  refine mw_if_ne (pc' := 7) (tgt := 9) dX12_readsCompared_4 rfl (by decide) (fun c44 => ?_) (fun c44 => ?_)
  · replace K := K.1 c44
    refine mw_aload_n (pc' := 10) dX12_readsCompared_9 rfl rfl ?_
    refine mw_callV (pc' := 13) (b' := (0, 0)) (b1 := b) (av := []) (rest := []) dX12_readsCompared_10 rfl lkX12_230 rfl rfl (Nat.le_of_ble_eq_true rfl) ⟨Nat.le_of_eq (Nat.zero_add _), Nat.le_of_eq (Nat.zero_add _)⟩ (skT_47 hS) ?_
    refine mC_mono (fun r h3 hr => ?_) K
    obtain ⟨x4, rfl, hS, K⟩ := hr
    show mW _ _ _ _ _ _ [.inl x4] _ _
    refine mw_bipush (pc' := 15) (v := 60) dX12_readsCompared_13 rfl (by decide) ?_
    refine mw_icmp_ne (pc' := 18) (tgt := 23) dX12_readsCompared_15 rfl (by decide) (fun c43 => ?_) (fun c43 => ?_)
    · replace K := K.1 c43
      refine mw_aload_n (pc' := 24) dX12_readsCompared_23 rfl rfl ?_
      refine mw_callV (pc' := 27) (b' := (0, 0)) (b1 := b) (av := []) (rest := []) dX12_readsCompared_24 rfl lkX12_230 rfl rfl (Nat.le_of_ble_eq_true rfl) ⟨Nat.le_of_eq (Nat.zero_add _), Nat.le_of_eq (Nat.zero_add _)⟩ (skT_47 hS) ?_
      refine mC_mono (fun r h5 hr => ?_) K
      obtain ⟨x6, rfl, hS, K⟩ := hr
      show mW _ _ _ _ _ _ [.inl x6] _ _
      refine mw_bipush (pc' := 29) (v := 62) dX12_readsCompared_27 rfl (by decide) ?_
      refine mw_icmp_ne (pc' := 32) (tgt := 37) dX12_readsCompared_29 rfl (by decide) (fun c32 => ?_) (fun c32 => ?_)
      · replace K := K.1 c32
        refine mw_aload_n (pc' := 38) dX12_readsCompared_37 rfl rfl ?_
        refine mw_callV (pc' := 41) (b' := (0, 0)) (b1 := b) (av := []) (rest := []) dX12_readsCompared_38 rfl lkX12_230 rfl rfl (Nat.le_of_ble_eq_true rfl) ⟨Nat.le_of_eq (Nat.zero_add _), Nat.le_of_eq (Nat.zero_add _)⟩ (skT_47 hS) ?_
        refine mC_mono (fun r h7 hr => ?_) K
        obtain ⟨x8, rfl, hS, K⟩ := hr
        show mW _ _ _ _ _ _ [.inl x8] _ _
        refine mw_bipush (pc' := 43) (v := 61) dX12_readsCompared_41 rfl (by decide) ?_
        have J20 : ∀ w9 : Int32, w9 = (if ¬ x8 = 61 then (-1) else 9) → mW G kX12_readsCompared (d + 5) b 52 [some (.inr (some 47)), none] ([.inl w9]) h7 Q := by
          intro w9 ew9
          replace K := K w9 ew9
          refine mw_istore_n (pc' := 53) dX12_readsCompared_52 rfl (by decide) ?_
          show mW _ _ _ _ _ [some (.inr (some 47)), some (.inl w9)] _ _ _
          refine mw_iload_n (pc' := 54) dX12_readsCompared_53 rfl rfl ?_
          refine mw_iconst (pc' := 55) (v := (-1)) dX12_readsCompared_54 rfl (by decide) ?_
          refine mw_icmp_ne (pc' := 58) (tgt := 68) dX12_readsCompared_55 rfl (by decide) (fun c19 => ?_) (fun c19 => ?_)
          · replace K := K.1 c19
            refine mw_aload_n (pc' := 69) dX12_readsCompared_68 rfl rfl ?_
            refine mw_aload_n (pc' := 70) dX12_readsCompared_69 rfl rfl ?_
            refine mw_getI (pc' := 73) dX12_readsCompared_70 rfl flX12_224 rfl (skT_47 hS) ?_
            refine mw_iconst (pc' := 74) (v := 1) dX12_readsCompared_73 rfl (by decide) ?_
            refine mw_iadd (pc' := 75) dX12_readsCompared_74 rfl ?_
            refine mw_putIK (pc' := 78) dX12_readsCompared_75 rfl flX12_224 rfl (Or.inl rfl) ⟨rfl, rfl⟩ (skT_47 hS) hS (fun h10 eh10 hS => ?_)
            replace K := K h10 eh10
            refine mw_aload_n (pc' := 79) dX12_readsCompared_78 rfl rfl ?_
            refine mw_callV (pc' := 82) (b' := (0, 0)) (b1 := b) (av := []) (rest := []) dX12_readsCompared_79 rfl lkX12_286 rfl rfl (Nat.le_of_ble_eq_true rfl) ⟨Nat.le_of_eq (Nat.zero_add _), Nat.le_of_eq (Nat.zero_add _)⟩ (skT_47 hS) ?_
            refine mC_mono (fun r h11 hr => ?_) K
            obtain ⟨x12, rfl, hS, K⟩ := hr
            show mW _ _ _ _ _ _ [.inl x12] _ _
            refine mw_if_ne (pc' := 85) (tgt := 87) dX12_readsCompared_82 rfl (by decide) (fun c15 => ?_) (fun c15 => ?_)
            · replace K := K.1 c15
              refine mw_aload_n (pc' := 88) dX12_readsCompared_87 rfl rfl ?_
              refine mw_iload_n (pc' := 89) dX12_readsCompared_88 rfl rfl ?_
              refine mw_iconst (pc' := 90) (v := 0) dX12_readsCompared_89 rfl (by decide) ?_
              refine mw_callV (pc' := 93) (b' := (0, 0)) (b1 := b) (av := [.inl w9, .inl 0]) (rest := []) dX12_readsCompared_90 rfl lkX12_260 rfl rfl (Nat.le_of_ble_eq_true rfl) ⟨Nat.le_of_eq (Nat.zero_add _), Nat.le_of_eq (Nat.zero_add _)⟩ (skT_47 hS) ?_
              refine mC_mono (fun r h13 hr => ?_) K
              obtain ⟨rfl, hS, K⟩ := hr
              show mW _ _ _ _ _ _ [] _ _
              refine mw_aload_n (pc' := 94) dX12_readsCompared_93 rfl rfl ?_
              refine mw_callV (pc' := 97) (b' := (0, 0)) (b1 := b) (av := []) (rest := []) dX12_readsCompared_94 rfl lkX12_289 rfl rfl (Nat.le_of_ble_eq_true rfl) ⟨Nat.le_of_eq (Nat.zero_add _), Nat.le_of_eq (Nat.zero_add _)⟩ (skT_47 hS) ?_
              refine mC_mono (fun r h14 hr => ?_) K
              obtain ⟨rfl, hS, K⟩ := hr
              show mW _ _ _ _ _ _ [] _ _
              refine mw_iconst (pc' := 98) (v := 1) dX12_readsCompared_97 rfl (by decide) ?_
              exact mw_iret dX12_readsCompared_98 rfl (by decide) K
            · replace K := K.2 c15
              refine mw_iconst (pc' := 86) (v := 0) dX12_readsCompared_85 rfl (by decide) ?_
              exact mw_iret dX12_readsCompared_86 rfl (by decide) K
          · replace K := K.2 c19
            refine mw_aload_n (pc' := 59) dX12_readsCompared_58 rfl rfl ?_
            refine mw_iconst (pc' := 60) (v := 1) dX12_readsCompared_59 rfl (by decide) ?_
            refine mw_aload_n (pc' := 61) dX12_readsCompared_60 rfl rfl ?_
            refine mw_getI (pc' := 64) dX12_readsCompared_61 rfl flX12_224 rfl (skT_47 hS) ?_
            refine mw_callV (pc' := 67) (b' := (0, 0)) (b1 := b) (av := [.inl 1, .inl (mI h7 47 13)]) (rest := []) dX12_readsCompared_64 rfl lkX12_237 rfl rfl (Nat.le_of_ble_eq_true rfl) ⟨Nat.le_of_eq (Nat.zero_add _), Nat.le_of_eq (Nat.zero_add _)⟩ (skT_47 hS) ?_
            refine mC_mono (fun r h16 hr => ?_) K
            obtain ⟨x17, rfl, hS, K⟩ := hr
            show mW _ _ _ _ _ _ [.inl x17] _ _
            obtain ⟨o18, K⟩ := K
            exact mw_iret dX12_readsCompared_67 rfl (m_boolN o18) K
        refine mw_icmp_ne (pc' := 46) (tgt := 51) dX12_readsCompared_43 rfl (by decide) (fun c21 => ?_) (fun c21 => ?_)
        · refine mw_iconst (pc' := 52) (v := (-1)) dX12_readsCompared_51 rfl (by decide) ?_
          exact J20 _ (by rw [if_pos c21])
        · refine mw_bipush (pc' := 48) (v := 9) dX12_readsCompared_46 rfl (by decide) ?_
          refine mw_goto (tgt := 52) dX12_readsCompared_48 (by decide) ?_
          exact J20 _ (by rw [if_neg (fun z => z c21)])
      · replace K := K.2 c32
        refine mw_bipush (pc' := 34) (v := 8) dX12_readsCompared_32 rfl (by decide) ?_
        refine mw_goto (tgt := 52) dX12_readsCompared_34 (by decide) ?_
        refine mw_istore_n (pc' := 53) dX12_readsCompared_52 rfl (by decide) ?_
        show mW _ _ _ _ _ [some (.inr (some 47)), some (.inl 8)] _ _ _
        refine mw_iload_n (pc' := 54) dX12_readsCompared_53 rfl rfl ?_
        refine mw_iconst (pc' := 55) (v := (-1)) dX12_readsCompared_54 rfl (by decide) ?_
        refine mw_icmp_ne (pc' := 58) (tgt := 68) dX12_readsCompared_55 rfl (by decide) (fun c31 => ?_) (fun c31 => ?_)
        · replace K := K.1 c31
          refine mw_aload_n (pc' := 69) dX12_readsCompared_68 rfl rfl ?_
          refine mw_aload_n (pc' := 70) dX12_readsCompared_69 rfl rfl ?_
          refine mw_getI (pc' := 73) dX12_readsCompared_70 rfl flX12_224 rfl (skT_47 hS) ?_
          refine mw_iconst (pc' := 74) (v := 1) dX12_readsCompared_73 rfl (by decide) ?_
          refine mw_iadd (pc' := 75) dX12_readsCompared_74 rfl ?_
          refine mw_putIK (pc' := 78) dX12_readsCompared_75 rfl flX12_224 rfl (Or.inl rfl) ⟨rfl, rfl⟩ (skT_47 hS) hS (fun h22 eh22 hS => ?_)
          replace K := K h22 eh22
          refine mw_aload_n (pc' := 79) dX12_readsCompared_78 rfl rfl ?_
          refine mw_callV (pc' := 82) (b' := (0, 0)) (b1 := b) (av := []) (rest := []) dX12_readsCompared_79 rfl lkX12_286 rfl rfl (Nat.le_of_ble_eq_true rfl) ⟨Nat.le_of_eq (Nat.zero_add _), Nat.le_of_eq (Nat.zero_add _)⟩ (skT_47 hS) ?_
          refine mC_mono (fun r h23 hr => ?_) K
          obtain ⟨x24, rfl, hS, K⟩ := hr
          show mW _ _ _ _ _ _ [.inl x24] _ _
          refine mw_if_ne (pc' := 85) (tgt := 87) dX12_readsCompared_82 rfl (by decide) (fun c27 => ?_) (fun c27 => ?_)
          · replace K := K.1 c27
            refine mw_aload_n (pc' := 88) dX12_readsCompared_87 rfl rfl ?_
            refine mw_iload_n (pc' := 89) dX12_readsCompared_88 rfl rfl ?_
            refine mw_iconst (pc' := 90) (v := 0) dX12_readsCompared_89 rfl (by decide) ?_
            refine mw_callV (pc' := 93) (b' := (0, 0)) (b1 := b) (av := [.inl 8, .inl 0]) (rest := []) dX12_readsCompared_90 rfl lkX12_260 rfl rfl (Nat.le_of_ble_eq_true rfl) ⟨Nat.le_of_eq (Nat.zero_add _), Nat.le_of_eq (Nat.zero_add _)⟩ (skT_47 hS) ?_
            refine mC_mono (fun r h25 hr => ?_) K
            obtain ⟨rfl, hS, K⟩ := hr
            show mW _ _ _ _ _ _ [] _ _
            refine mw_aload_n (pc' := 94) dX12_readsCompared_93 rfl rfl ?_
            refine mw_callV (pc' := 97) (b' := (0, 0)) (b1 := b) (av := []) (rest := []) dX12_readsCompared_94 rfl lkX12_289 rfl rfl (Nat.le_of_ble_eq_true rfl) ⟨Nat.le_of_eq (Nat.zero_add _), Nat.le_of_eq (Nat.zero_add _)⟩ (skT_47 hS) ?_
            refine mC_mono (fun r h26 hr => ?_) K
            obtain ⟨rfl, hS, K⟩ := hr
            show mW _ _ _ _ _ _ [] _ _
            refine mw_iconst (pc' := 98) (v := 1) dX12_readsCompared_97 rfl (by decide) ?_
            exact mw_iret dX12_readsCompared_98 rfl (by decide) K
          · replace K := K.2 c27
            refine mw_iconst (pc' := 86) (v := 0) dX12_readsCompared_85 rfl (by decide) ?_
            exact mw_iret dX12_readsCompared_86 rfl (by decide) K
        · replace K := K.2 c31
          refine mw_aload_n (pc' := 59) dX12_readsCompared_58 rfl rfl ?_
          refine mw_iconst (pc' := 60) (v := 1) dX12_readsCompared_59 rfl (by decide) ?_
          refine mw_aload_n (pc' := 61) dX12_readsCompared_60 rfl rfl ?_
          refine mw_getI (pc' := 64) dX12_readsCompared_61 rfl flX12_224 rfl (skT_47 hS) ?_
          refine mw_callV (pc' := 67) (b' := (0, 0)) (b1 := b) (av := [.inl 1, .inl (mI h5 47 13)]) (rest := []) dX12_readsCompared_64 rfl lkX12_237 rfl rfl (Nat.le_of_ble_eq_true rfl) ⟨Nat.le_of_eq (Nat.zero_add _), Nat.le_of_eq (Nat.zero_add _)⟩ (skT_47 hS) ?_
          refine mC_mono (fun r h28 hr => ?_) K
          obtain ⟨x29, rfl, hS, K⟩ := hr
          show mW _ _ _ _ _ _ [.inl x29] _ _
          obtain ⟨o30, K⟩ := K
          exact mw_iret dX12_readsCompared_67 rfl (m_boolN o30) K
    · replace K := K.2 c43
      refine mw_bipush (pc' := 20) (v := 7) dX12_readsCompared_18 rfl (by decide) ?_
      refine mw_goto (tgt := 52) dX12_readsCompared_20 (by decide) ?_
      refine mw_istore_n (pc' := 53) dX12_readsCompared_52 rfl (by decide) ?_
      show mW _ _ _ _ _ [some (.inr (some 47)), some (.inl 7)] _ _ _
      refine mw_iload_n (pc' := 54) dX12_readsCompared_53 rfl rfl ?_
      refine mw_iconst (pc' := 55) (v := (-1)) dX12_readsCompared_54 rfl (by decide) ?_
      refine mw_icmp_ne (pc' := 58) (tgt := 68) dX12_readsCompared_55 rfl (by decide) (fun c42 => ?_) (fun c42 => ?_)
      · replace K := K.1 c42
        refine mw_aload_n (pc' := 69) dX12_readsCompared_68 rfl rfl ?_
        refine mw_aload_n (pc' := 70) dX12_readsCompared_69 rfl rfl ?_
        refine mw_getI (pc' := 73) dX12_readsCompared_70 rfl flX12_224 rfl (skT_47 hS) ?_
        refine mw_iconst (pc' := 74) (v := 1) dX12_readsCompared_73 rfl (by decide) ?_
        refine mw_iadd (pc' := 75) dX12_readsCompared_74 rfl ?_
        refine mw_putIK (pc' := 78) dX12_readsCompared_75 rfl flX12_224 rfl (Or.inl rfl) ⟨rfl, rfl⟩ (skT_47 hS) hS (fun h33 eh33 hS => ?_)
        replace K := K h33 eh33
        refine mw_aload_n (pc' := 79) dX12_readsCompared_78 rfl rfl ?_
        refine mw_callV (pc' := 82) (b' := (0, 0)) (b1 := b) (av := []) (rest := []) dX12_readsCompared_79 rfl lkX12_286 rfl rfl (Nat.le_of_ble_eq_true rfl) ⟨Nat.le_of_eq (Nat.zero_add _), Nat.le_of_eq (Nat.zero_add _)⟩ (skT_47 hS) ?_
        refine mC_mono (fun r h34 hr => ?_) K
        obtain ⟨x35, rfl, hS, K⟩ := hr
        show mW _ _ _ _ _ _ [.inl x35] _ _
        refine mw_if_ne (pc' := 85) (tgt := 87) dX12_readsCompared_82 rfl (by decide) (fun c38 => ?_) (fun c38 => ?_)
        · replace K := K.1 c38
          refine mw_aload_n (pc' := 88) dX12_readsCompared_87 rfl rfl ?_
          refine mw_iload_n (pc' := 89) dX12_readsCompared_88 rfl rfl ?_
          refine mw_iconst (pc' := 90) (v := 0) dX12_readsCompared_89 rfl (by decide) ?_
          refine mw_callV (pc' := 93) (b' := (0, 0)) (b1 := b) (av := [.inl 7, .inl 0]) (rest := []) dX12_readsCompared_90 rfl lkX12_260 rfl rfl (Nat.le_of_ble_eq_true rfl) ⟨Nat.le_of_eq (Nat.zero_add _), Nat.le_of_eq (Nat.zero_add _)⟩ (skT_47 hS) ?_
          refine mC_mono (fun r h36 hr => ?_) K
          obtain ⟨rfl, hS, K⟩ := hr
          show mW _ _ _ _ _ _ [] _ _
          refine mw_aload_n (pc' := 94) dX12_readsCompared_93 rfl rfl ?_
          refine mw_callV (pc' := 97) (b' := (0, 0)) (b1 := b) (av := []) (rest := []) dX12_readsCompared_94 rfl lkX12_289 rfl rfl (Nat.le_of_ble_eq_true rfl) ⟨Nat.le_of_eq (Nat.zero_add _), Nat.le_of_eq (Nat.zero_add _)⟩ (skT_47 hS) ?_
          refine mC_mono (fun r h37 hr => ?_) K
          obtain ⟨rfl, hS, K⟩ := hr
          show mW _ _ _ _ _ _ [] _ _
          refine mw_iconst (pc' := 98) (v := 1) dX12_readsCompared_97 rfl (by decide) ?_
          exact mw_iret dX12_readsCompared_98 rfl (by decide) K
        · replace K := K.2 c38
          refine mw_iconst (pc' := 86) (v := 0) dX12_readsCompared_85 rfl (by decide) ?_
          exact mw_iret dX12_readsCompared_86 rfl (by decide) K
      · replace K := K.2 c42
        refine mw_aload_n (pc' := 59) dX12_readsCompared_58 rfl rfl ?_
        refine mw_iconst (pc' := 60) (v := 1) dX12_readsCompared_59 rfl (by decide) ?_
        refine mw_aload_n (pc' := 61) dX12_readsCompared_60 rfl rfl ?_
        refine mw_getI (pc' := 64) dX12_readsCompared_61 rfl flX12_224 rfl (skT_47 hS) ?_
        refine mw_callV (pc' := 67) (b' := (0, 0)) (b1 := b) (av := [.inl 1, .inl (mI h3 47 13)]) (rest := []) dX12_readsCompared_64 rfl lkX12_237 rfl rfl (Nat.le_of_ble_eq_true rfl) ⟨Nat.le_of_eq (Nat.zero_add _), Nat.le_of_eq (Nat.zero_add _)⟩ (skT_47 hS) ?_
        refine mC_mono (fun r h39 hr => ?_) K
        obtain ⟨x40, rfl, hS, K⟩ := hr
        show mW _ _ _ _ _ _ [.inl x40] _ _
        obtain ⟨o41, K⟩ := K
        exact mw_iret dX12_readsCompared_67 rfl (m_boolN o41) K
  · replace K := K.2 c44
    refine mw_iconst (pc' := 8) (v := 0) dX12_readsCompared_7 rfl (by decide) ?_
    exact mw_iret dX12_readsCompared_8 rfl (by decide) K

set_option maxRecDepth 100000 in
set_option maxHeartbeats 4000000 in
theorem qX12_readsCondition {G : mG} {d : Nat} {b : Nat × Nat} {h : mH} {Q : Option mV → mH → Prop}  (hS : mSk h)
    (K : mC G kX12_here (d + 5) (0, 0) [.inr (some 47)] h (fun r h1 => ∃ x2, r = some (.inl x2) ∧ mSk h1 ∧ ((x2 = 40 → ∀ h3, h3 = mSI h1 47 16 0 → ∀ h4, h4 = mSI h3 47 18 0 → mC G kX12_opens (d + 5) (0, 0) [.inr (some 47), .inl 13] h4 (fun r h5 => ∃ x6, r = some (.inl x6) ∧ mSk h5 ∧ ((¬ x6 = 0 → mW G kX12_readsCondition (d + 6) b 40 [some (.inr (some 47))] [] h5 Q) ∧ (x6 = 0 → Q (some (.inl 0)) h5)))) ∧ (¬ x2 = 40 → mC G kX12_wrongAt (d + 5) (0, 0) [.inr (some 47), .inl 1, .inl (mI h1 47 13)] h1 (fun r h8 => ∃ x9, r = some (.inl x9) ∧ mSk h8 ∧ m_bool x9 ∧ Q (some (.inl x9)) h8))))) : mC G kX12_readsCondition (d + 6) b [.inr (some 47)] h Q := by
  refine mC_in rfl (Nat.le_of_ble_eq_true rfl) ?_
  show mW _ _ _ _ _ [some (.inr (some 47))] _ _ _
  refine mw_aload_n (pc' := 1) dX12_readsCondition_0 rfl rfl ?_
  refine mw_callV (pc' := 4) (b' := (0, 0)) (b1 := b) (av := []) (rest := []) dX12_readsCondition_1 rfl lkX12_230 rfl rfl (Nat.le_of_ble_eq_true rfl) ⟨Nat.le_of_eq (Nat.zero_add _), Nat.le_of_eq (Nat.zero_add _)⟩ (skT_47 hS) ?_
  refine mC_mono (fun r h1 hr => ?_) K
  obtain ⟨x2, rfl, hS, K⟩ := hr
  show mW _ _ _ _ _ _ [.inl x2] _ _
  refine mw_bipush (pc' := 6) (v := 40) dX12_readsCondition_4 rfl (by decide) ?_
  refine mw_icmp_eq (pc' := 9) (tgt := 19) dX12_readsCondition_6 rfl (by decide) (fun c11 => ?_) (fun c11 => ?_)
  · replace K := K.1 c11
    refine mw_aload_n (pc' := 20) dX12_readsCondition_19 rfl rfl ?_
    refine mw_iconst (pc' := 21) (v := 0) dX12_readsCondition_20 rfl (by decide) ?_
    refine mw_putIK (pc' := 24) dX12_readsCondition_21 rfl flX12_251 rfl (Or.inl rfl) ⟨rfl, rfl⟩ (skT_47 hS) hS (fun h3 eh3 hS => ?_)
    replace K := K h3 eh3
    refine mw_aload_n (pc' := 25) dX12_readsCondition_24 rfl rfl ?_
    refine mw_iconst (pc' := 26) (v := 0) dX12_readsCondition_25 rfl (by decide) ?_
    refine mw_putIK (pc' := 29) dX12_readsCondition_26 rfl flX12_254 rfl (Or.inl rfl) ⟨rfl, rfl⟩ (skT_47 hS) hS (fun h4 eh4 hS => ?_)
    replace K := K h4 eh4
    refine mw_aload_n (pc' := 30) dX12_readsCondition_29 rfl rfl ?_
    refine mw_bipush (pc' := 32) (v := 13) dX12_readsCondition_30 rfl (by decide) ?_
    refine mw_callV (pc' := 35) (b' := (0, 0)) (b1 := b) (av := [.inl 13]) (rest := []) dX12_readsCondition_32 rfl lkX12_264 rfl rfl (Nat.le_of_ble_eq_true rfl) ⟨Nat.le_of_eq (Nat.zero_add _), Nat.le_of_eq (Nat.zero_add _)⟩ (skT_47 hS) ?_
    refine mC_mono (fun r h5 hr => ?_) K
    obtain ⟨x6, rfl, hS, K⟩ := hr
    show mW _ _ _ _ _ _ [.inl x6] _ _
    refine mw_if_ne (pc' := 38) (tgt := 40) dX12_readsCondition_35 rfl (by decide) (fun c7 => ?_) (fun c7 => ?_)
    · replace K := K.1 c7
      exact K
    · replace K := K.2 c7
      refine mw_iconst (pc' := 39) (v := 0) dX12_readsCondition_38 rfl (by decide) ?_
      exact mw_iret dX12_readsCondition_39 rfl (by decide) K
  · replace K := K.2 c11
    refine mw_aload_n (pc' := 10) dX12_readsCondition_9 rfl rfl ?_
    refine mw_iconst (pc' := 11) (v := 1) dX12_readsCondition_10 rfl (by decide) ?_
    refine mw_aload_n (pc' := 12) dX12_readsCondition_11 rfl rfl ?_
    refine mw_getI (pc' := 15) dX12_readsCondition_12 rfl flX12_224 rfl (skT_47 hS) ?_
    refine mw_callV (pc' := 18) (b' := (0, 0)) (b1 := b) (av := [.inl 1, .inl (mI h1 47 13)]) (rest := []) dX12_readsCondition_15 rfl lkX12_237 rfl rfl (Nat.le_of_ble_eq_true rfl) ⟨Nat.le_of_eq (Nat.zero_add _), Nat.le_of_eq (Nat.zero_add _)⟩ (skT_47 hS) ?_
    refine mC_mono (fun r h8 hr => ?_) K
    obtain ⟨x9, rfl, hS, K⟩ := hr
    show mW _ _ _ _ _ _ [.inl x9] _ _
    obtain ⟨o10, K⟩ := K
    exact mw_iret dX12_readsCondition_18 rfl (m_boolN o10) K

set_option maxRecDepth 100000 in
set_option maxHeartbeats 4000000 in
theorem qX12_readsCondition_40 {G : mG} {d : Nat} {b : Nat × Nat} {h : mH} {Q : Option mV → mH → Prop}  (hS : mSk h)
    (K : mC G kX12_here (d + 5) (0, 0) [.inr (some 47)] h (fun r h1 => ∃ x2, r = some (.inl x2) ∧ mSk h1 ∧ ((x2 = 33 → mC G kX12_here (d + 5) (0, 0) [.inr (some 47)] h1 (fun r h3 => ∃ x4, r = some (.inl x4) ∧ mSk h3 ∧ ∀ w5 : Int32, w5 = (if ¬ x4 = 33 then 13 else 10) → mC G kX12_opens (d + 5) (0, 0) [.inr (some 47), .inl w5] h3 (fun r h6 => ∃ x7, r = some (.inl x7) ∧ mSk h6 ∧ ((¬ x7 = 0 → mW G kX12_readsCondition (d + 6) b 40 [some (.inr (some 47))] [] h6 Q) ∧ (x7 = 0 → Q (some (.inl 0)) h6))))) ∧ (¬ x2 = 33 → mC G kX12_here (d + 5) (0, 0) [.inr (some 47)] h1 (fun r h11 => ∃ x12, r = some (.inl x12) ∧ mSk h11 ∧ ((¬ x12 = 40 → mC G kX12_readsCompared (d + 5) (0, 0) [.inr (some 47)] h11 (fun r h13 => ∃ x14, r = some (.inl x14) ∧ mSk h13 ∧ ((¬ x14 = 0 → mW G kX12_readsCondition (d + 6) b 92 [some (.inr (some 47))] [] h13 Q) ∧ (x14 = 0 → Q (some (.inl 0)) h13)))) ∧ (x12 = 40 → mC G kX12_here (d + 5) (0, 0) [.inr (some 47)] h11 (fun r h16 => ∃ x17, r = some (.inl x17) ∧ mSk h16 ∧ ∀ w18 : Int32, w18 = (if ¬ x17 = 33 then 13 else 10) → mC G kX12_opens (d + 5) (0, 0) [.inr (some 47), .inl w18] h16 (fun r h19 => ∃ x20, r = some (.inl x20) ∧ mSk h19 ∧ ((¬ x20 = 0 → mW G kX12_readsCondition (d + 6) b 40 [some (.inr (some 47))] [] h19 Q) ∧ (x20 = 0 → Q (some (.inl 0)) h19))))))))))) : mW G kX12_readsCondition (d + 6) b 40 [some (.inr (some 47))] [] h Q := by
  refine mw_aload_n (pc' := 41) dX12_readsCondition_40 rfl rfl ?_
  refine mw_callV (pc' := 44) (b' := (0, 0)) (b1 := b) (av := []) (rest := []) dX12_readsCondition_41 rfl lkX12_230 rfl rfl (Nat.le_of_ble_eq_true rfl) ⟨Nat.le_of_eq (Nat.zero_add _), Nat.le_of_eq (Nat.zero_add _)⟩ (skT_47 hS) ?_
  refine mC_mono (fun r h1 hr => ?_) K
  obtain ⟨x2, rfl, hS, K⟩ := hr
  show mW _ _ _ _ _ _ [.inl x2] _ _
  refine mw_bipush (pc' := 46) (v := 33) dX12_readsCondition_44 rfl (by decide) ?_
  refine mw_icmp_eq (pc' := 49) (tgt := 58) dX12_readsCondition_46 rfl (by decide) (fun c25 => ?_) (fun c25 => ?_)
  · replace K := K.1 c25
    refine mw_aload_n (pc' := 59) dX12_readsCondition_58 rfl rfl ?_
    refine mw_aload_n (pc' := 60) dX12_readsCondition_59 rfl rfl ?_
    refine mw_callV (pc' := 63) (b' := (0, 0)) (b1 := b) (av := []) (rest := [.inr (some 47)]) dX12_readsCondition_60 rfl lkX12_230 rfl rfl (Nat.le_of_ble_eq_true rfl) ⟨Nat.le_of_eq (Nat.zero_add _), Nat.le_of_eq (Nat.zero_add _)⟩ (skT_47 hS) ?_
    refine mC_mono (fun r h3 hr => ?_) K
    obtain ⟨x4, rfl, hS, K⟩ := hr
    show mW _ _ _ _ _ _ [.inl x4, .inr (some 47)] _ _
    refine mw_bipush (pc' := 65) (v := 33) dX12_readsCondition_63 rfl (by decide) ?_
    have J9 : ∀ w5 : Int32, w5 = (if ¬ x4 = 33 then 13 else 10) → mW G kX12_readsCondition (d + 6) b 75 [some (.inr (some 47))] ([.inl w5, .inr (some 47)]) h3 Q := by
      intro w5 ew5
      replace K := K w5 ew5
      refine mw_callV (pc' := 78) (b' := (0, 0)) (b1 := b) (av := [.inl w5]) (rest := []) dX12_readsCondition_75 rfl lkX12_264 rfl rfl (Nat.le_of_ble_eq_true rfl) ⟨Nat.le_of_eq (Nat.zero_add _), Nat.le_of_eq (Nat.zero_add _)⟩ (skT_47 hS) ?_
      refine mC_mono (fun r h6 hr => ?_) K
      obtain ⟨x7, rfl, hS, K⟩ := hr
      show mW _ _ _ _ _ _ [.inl x7] _ _
      refine mw_if_ne (pc' := 81) (tgt := 40) dX12_readsCondition_78 rfl (by decide) (fun c8 => ?_) (fun c8 => ?_)
      · replace K := K.1 c8
        exact K
      · replace K := K.2 c8
        refine mw_iconst (pc' := 82) (v := 0) dX12_readsCondition_81 rfl (by decide) ?_
        exact mw_iret dX12_readsCondition_82 rfl (by decide) K
    refine mw_icmp_ne (pc' := 68) (tgt := 73) dX12_readsCondition_65 rfl (by decide) (fun c10 => ?_) (fun c10 => ?_)
    · refine mw_bipush (pc' := 75) (v := 13) dX12_readsCondition_73 rfl (by decide) ?_
      exact J9 _ (by rw [if_pos c10])
    · refine mw_bipush (pc' := 70) (v := 10) dX12_readsCondition_68 rfl (by decide) ?_
      refine mw_goto (tgt := 75) dX12_readsCondition_70 (by decide) ?_
      exact J9 _ (by rw [if_neg (fun z => z c10)])
  · replace K := K.2 c25
    refine mw_aload_n (pc' := 50) dX12_readsCondition_49 rfl rfl ?_
    refine mw_callV (pc' := 53) (b' := (0, 0)) (b1 := b) (av := []) (rest := []) dX12_readsCondition_50 rfl lkX12_230 rfl rfl (Nat.le_of_ble_eq_true rfl) ⟨Nat.le_of_eq (Nat.zero_add _), Nat.le_of_eq (Nat.zero_add _)⟩ (skT_47 hS) ?_
    refine mC_mono (fun r h11 hr => ?_) K
    obtain ⟨x12, rfl, hS, K⟩ := hr
    show mW _ _ _ _ _ _ [.inl x12] _ _
    refine mw_bipush (pc' := 55) (v := 40) dX12_readsCondition_53 rfl (by decide) ?_
    refine mw_icmp_ne (pc' := 58) (tgt := 83) dX12_readsCondition_55 rfl (by decide) (fun c24 => ?_) (fun c24 => ?_)
    · replace K := K.1 c24
      refine mw_aload_n (pc' := 84) dX12_readsCondition_83 rfl rfl ?_
      refine mw_callV (pc' := 87) (b' := (0, 0)) (b1 := b) (av := []) (rest := []) dX12_readsCondition_84 rfl lkX12_292 rfl rfl (Nat.le_of_ble_eq_true rfl) ⟨Nat.le_of_eq (Nat.zero_add _), Nat.le_of_eq (Nat.zero_add _)⟩ (skT_47 hS) ?_
      refine mC_mono (fun r h13 hr => ?_) K
      obtain ⟨x14, rfl, hS, K⟩ := hr
      show mW _ _ _ _ _ _ [.inl x14] _ _
      refine mw_if_ne (pc' := 90) (tgt := 92) dX12_readsCondition_87 rfl (by decide) (fun c15 => ?_) (fun c15 => ?_)
      · replace K := K.1 c15
        exact K
      · replace K := K.2 c15
        refine mw_iconst (pc' := 91) (v := 0) dX12_readsCondition_90 rfl (by decide) ?_
        exact mw_iret dX12_readsCondition_91 rfl (by decide) K
    · replace K := K.2 c24
      refine mw_aload_n (pc' := 59) dX12_readsCondition_58 rfl rfl ?_
      refine mw_aload_n (pc' := 60) dX12_readsCondition_59 rfl rfl ?_
      refine mw_callV (pc' := 63) (b' := (0, 0)) (b1 := b) (av := []) (rest := [.inr (some 47)]) dX12_readsCondition_60 rfl lkX12_230 rfl rfl (Nat.le_of_ble_eq_true rfl) ⟨Nat.le_of_eq (Nat.zero_add _), Nat.le_of_eq (Nat.zero_add _)⟩ (skT_47 hS) ?_
      refine mC_mono (fun r h16 hr => ?_) K
      obtain ⟨x17, rfl, hS, K⟩ := hr
      show mW _ _ _ _ _ _ [.inl x17, .inr (some 47)] _ _
      refine mw_bipush (pc' := 65) (v := 33) dX12_readsCondition_63 rfl (by decide) ?_
      have J22 : ∀ w18 : Int32, w18 = (if ¬ x17 = 33 then 13 else 10) → mW G kX12_readsCondition (d + 6) b 75 [some (.inr (some 47))] ([.inl w18, .inr (some 47)]) h16 Q := by
        intro w18 ew18
        replace K := K w18 ew18
        refine mw_callV (pc' := 78) (b' := (0, 0)) (b1 := b) (av := [.inl w18]) (rest := []) dX12_readsCondition_75 rfl lkX12_264 rfl rfl (Nat.le_of_ble_eq_true rfl) ⟨Nat.le_of_eq (Nat.zero_add _), Nat.le_of_eq (Nat.zero_add _)⟩ (skT_47 hS) ?_
        refine mC_mono (fun r h19 hr => ?_) K
        obtain ⟨x20, rfl, hS, K⟩ := hr
        show mW _ _ _ _ _ _ [.inl x20] _ _
        refine mw_if_ne (pc' := 81) (tgt := 40) dX12_readsCondition_78 rfl (by decide) (fun c21 => ?_) (fun c21 => ?_)
        · replace K := K.1 c21
          exact K
        · replace K := K.2 c21
          refine mw_iconst (pc' := 82) (v := 0) dX12_readsCondition_81 rfl (by decide) ?_
          exact mw_iret dX12_readsCondition_82 rfl (by decide) K
      refine mw_icmp_ne (pc' := 68) (tgt := 73) dX12_readsCondition_65 rfl (by decide) (fun c23 => ?_) (fun c23 => ?_)
      · refine mw_bipush (pc' := 75) (v := 13) dX12_readsCondition_73 rfl (by decide) ?_
        exact J22 _ (by rw [if_pos c23])
      · refine mw_bipush (pc' := 70) (v := 10) dX12_readsCondition_68 rfl (by decide) ?_
        refine mw_goto (tgt := 75) dX12_readsCondition_70 (by decide) ?_
        exact J22 _ (by rw [if_neg (fun z => z c23)])

set_option maxRecDepth 100000 in
set_option maxHeartbeats 4000000 in
theorem qX12_readsCondition_92 {G : mG} {d : Nat} {b : Nat × Nat} {h : mH} {Q : Option mV → mH → Prop}  (hS : mSk h)
    (K : mC G kX12_here (d + 5) (0, 0) [.inr (some 47)] h (fun r h1 => ∃ x2, r = some (.inl x2) ∧ mSk h1 ∧ ((¬ x2 = 41 → mC G kX12_here (d + 5) (0, 0) [.inr (some 47)] h1 (fun r h3 => ∃ x4, r = some (.inl x4) ∧ mSk h3 ∧ ((x4 = 38 → mC G kX12_here (d + 5) (0, 0) [.inr (some 47)] h3 (fun r h5 => ∃ x6, r = some (.inl x6) ∧ mSk h5 ∧ ∀ w7 : Int32, w7 = (if ¬ x6 = 124 then 0 else 1) → mC G kX12_lands (d + 5) (0, 0) [.inr (some 47), .inl w7] h5 (fun r h8 => r = none ∧ mSk h8 ∧ mC G kX12_here (d + 5) (0, 0) [.inr (some 47)] h8 (fun r h9 => ∃ x10, r = some (.inl x10) ∧ mSk h9 ∧ ∀ w11 : Int32, w11 = (if ¬ x10 = 38 then 12 else 11) → mC G kX12_jumps (d + 5) (0, 0) [.inr (some 47), .inl w11] h9 (fun r h12 => r = none ∧ mSk h12 ∧ mW G kX12_readsCondition (d + 6) b 40 [some (.inr (some 47))] [] h12 Q))))) ∧ (¬ x4 = 38 → mC G kX12_here (d + 5) (0, 0) [.inr (some 47)] h3 (fun r h17 => ∃ x18, r = some (.inl x18) ∧ mSk h17 ∧ ((x18 = 124 → mC G kX12_here (d + 5) (0, 0) [.inr (some 47)] h17 (fun r h19 => ∃ x20, r = some (.inl x20) ∧ mSk h19 ∧ ∀ w21 : Int32, w21 = (if ¬ x20 = 124 then 0 else 1) → mC G kX12_lands (d + 5) (0, 0) [.inr (some 47), .inl w21] h19 (fun r h22 => r = none ∧ mSk h22 ∧ mC G kX12_here (d + 5) (0, 0) [.inr (some 47)] h22 (fun r h23 => ∃ x24, r = some (.inl x24) ∧ mSk h23 ∧ ∀ w25 : Int32, w25 = (if ¬ x24 = 38 then 12 else 11) → mC G kX12_jumps (d + 5) (0, 0) [.inr (some 47), .inl w25] h23 (fun r h26 => r = none ∧ mSk h26 ∧ mW G kX12_readsCondition (d + 6) b 40 [some (.inr (some 47))] [] h26 Q))))) ∧ (¬ x18 = 124 → mC G kX12_wrongAt (d + 5) (0, 0) [.inr (some 47), .inl 1, .inl (mI h17 47 13)] h17 (fun r h31 => ∃ x32, r = some (.inl x32) ∧ mSk h31 ∧ m_bool x32 ∧ Q (some (.inl x32)) h31)))))))) ∧ (x2 = 41 → mC G kX12_lands (d + 5) (0, 0) [.inr (some 47), .inl 1] h1 (fun r h36 => r = none ∧ mSk h36 ∧ ∀ h37, h37 = mSI h36 47 18 ((mI h36 47 18) - 1) → ∀ h38, h38 = mSI h37 47 16 ((mI h37 47 16) - 1) → ∀ h39, h39 = mSI h38 47 13 ((mI h38 47 13) + 1) → ((¬ (mI h39 47 18) = 0 → mC G kX12_endsPiece (d + 5) (0, 0) [.inr (some 47)] h39 (fun r h40 => r = none ∧ mSk h40 ∧ mW G kX12_readsCondition (d + 6) b 92 [some (.inr (some 47))] [] h40 Q)) ∧ ((mI h39 47 18) = 0 → Q (some (.inl 1)) h39))))))) : mW G kX12_readsCondition (d + 6) b 92 [some (.inr (some 47))] [] h Q := by
  refine mw_aload_n (pc' := 93) dX12_readsCondition_92 rfl rfl ?_
  refine mw_callV (pc' := 96) (b' := (0, 0)) (b1 := b) (av := []) (rest := []) dX12_readsCondition_93 rfl lkX12_230 rfl rfl (Nat.le_of_ble_eq_true rfl) ⟨Nat.le_of_eq (Nat.zero_add _), Nat.le_of_eq (Nat.zero_add _)⟩ (skT_47 hS) ?_
  refine mC_mono (fun r h1 hr => ?_) K
  obtain ⟨x2, rfl, hS, K⟩ := hr
  show mW _ _ _ _ _ _ [.inl x2] _ _
  refine mw_bipush (pc' := 98) (v := 41) dX12_readsCondition_96 rfl (by decide) ?_
  refine mw_icmp_ne (pc' := 101) (tgt := 152) dX12_readsCondition_98 rfl (by decide) (fun c42 => ?_) (fun c42 => ?_)
  · replace K := K.1 c42
    refine mw_aload_n (pc' := 153) dX12_readsCondition_152 rfl rfl ?_
    refine mw_callV (pc' := 156) (b' := (0, 0)) (b1 := b) (av := []) (rest := []) dX12_readsCondition_153 rfl lkX12_230 rfl rfl (Nat.le_of_ble_eq_true rfl) ⟨Nat.le_of_eq (Nat.zero_add _), Nat.le_of_eq (Nat.zero_add _)⟩ (skT_47 hS) ?_
    refine mC_mono (fun r h3 hr => ?_) K
    obtain ⟨x4, rfl, hS, K⟩ := hr
    show mW _ _ _ _ _ _ [.inl x4] _ _
    refine mw_bipush (pc' := 158) (v := 38) dX12_readsCondition_156 rfl (by decide) ?_
    refine mw_icmp_eq (pc' := 161) (tgt := 180) dX12_readsCondition_158 rfl (by decide) (fun c35 => ?_) (fun c35 => ?_)
    · replace K := K.1 c35
      refine mw_aload_n (pc' := 181) dX12_readsCondition_180 rfl rfl ?_
      refine mw_aload_n (pc' := 182) dX12_readsCondition_181 rfl rfl ?_
      refine mw_callV (pc' := 185) (b' := (0, 0)) (b1 := b) (av := []) (rest := [.inr (some 47)]) dX12_readsCondition_182 rfl lkX12_230 rfl rfl (Nat.le_of_ble_eq_true rfl) ⟨Nat.le_of_eq (Nat.zero_add _), Nat.le_of_eq (Nat.zero_add _)⟩ (skT_47 hS) ?_
      refine mC_mono (fun r h5 hr => ?_) K
      obtain ⟨x6, rfl, hS, K⟩ := hr
      show mW _ _ _ _ _ _ [.inl x6, .inr (some 47)] _ _
      refine mw_bipush (pc' := 187) (v := 124) dX12_readsCondition_185 rfl (by decide) ?_
      have J15 : ∀ w7 : Int32, w7 = (if ¬ x6 = 124 then 0 else 1) → mW G kX12_readsCondition (d + 6) b 195 [some (.inr (some 47))] ([.inl w7, .inr (some 47)]) h5 Q := by
        intro w7 ew7
        replace K := K w7 ew7
        refine mw_callV (pc' := 198) (b' := (0, 0)) (b1 := b) (av := [.inl w7]) (rest := []) dX12_readsCondition_195 rfl lkX12_295 rfl rfl (Nat.le_of_ble_eq_true rfl) ⟨Nat.le_of_eq (Nat.zero_add _), Nat.le_of_eq (Nat.zero_add _)⟩ (skT_47 hS) ?_
        refine mC_mono (fun r h8 hr => ?_) K
        obtain ⟨rfl, hS, K⟩ := hr
        show mW _ _ _ _ _ _ [] _ _
        refine mw_aload_n (pc' := 199) dX12_readsCondition_198 rfl rfl ?_
        refine mw_aload_n (pc' := 200) dX12_readsCondition_199 rfl rfl ?_
        refine mw_callV (pc' := 203) (b' := (0, 0)) (b1 := b) (av := []) (rest := [.inr (some 47)]) dX12_readsCondition_200 rfl lkX12_230 rfl rfl (Nat.le_of_ble_eq_true rfl) ⟨Nat.le_of_eq (Nat.zero_add _), Nat.le_of_eq (Nat.zero_add _)⟩ (skT_47 hS) ?_
        refine mC_mono (fun r h9 hr => ?_) K
        obtain ⟨x10, rfl, hS, K⟩ := hr
        show mW _ _ _ _ _ _ [.inl x10, .inr (some 47)] _ _
        refine mw_bipush (pc' := 205) (v := 38) dX12_readsCondition_203 rfl (by decide) ?_
        have J13 : ∀ w11 : Int32, w11 = (if ¬ x10 = 38 then 12 else 11) → mW G kX12_readsCondition (d + 6) b 215 [some (.inr (some 47))] ([.inl w11, .inr (some 47)]) h9 Q := by
          intro w11 ew11
          replace K := K w11 ew11
          refine mw_callV (pc' := 218) (b' := (0, 0)) (b1 := b) (av := [.inl w11]) (rest := []) dX12_readsCondition_215 rfl lkX12_298 rfl rfl (Nat.le_of_ble_eq_true rfl) ⟨Nat.le_of_eq (Nat.zero_add _), Nat.le_of_eq (Nat.zero_add _)⟩ (skT_47 hS) ?_
          refine mC_mono (fun r h12 hr => ?_) K
          obtain ⟨rfl, hS, K⟩ := hr
          show mW _ _ _ _ _ _ [] _ _
          refine mw_goto (tgt := 40) dX12_readsCondition_218 (by decide) ?_
          exact K
        refine mw_icmp_ne (pc' := 208) (tgt := 213) dX12_readsCondition_205 rfl (by decide) (fun c14 => ?_) (fun c14 => ?_)
        · refine mw_bipush (pc' := 215) (v := 12) dX12_readsCondition_213 rfl (by decide) ?_
          exact J13 _ (by rw [if_pos c14])
        · refine mw_bipush (pc' := 210) (v := 11) dX12_readsCondition_208 rfl (by decide) ?_
          refine mw_goto (tgt := 215) dX12_readsCondition_210 (by decide) ?_
          exact J13 _ (by rw [if_neg (fun z => z c14)])
      refine mw_icmp_ne (pc' := 190) (tgt := 194) dX12_readsCondition_187 rfl (by decide) (fun c16 => ?_) (fun c16 => ?_)
      · refine mw_iconst (pc' := 195) (v := 0) dX12_readsCondition_194 rfl (by decide) ?_
        exact J15 _ (by rw [if_pos c16])
      · refine mw_iconst (pc' := 191) (v := 1) dX12_readsCondition_190 rfl (by decide) ?_
        refine mw_goto (tgt := 195) dX12_readsCondition_191 (by decide) ?_
        exact J15 _ (by rw [if_neg (fun z => z c16)])
    · replace K := K.2 c35
      refine mw_aload_n (pc' := 162) dX12_readsCondition_161 rfl rfl ?_
      refine mw_callV (pc' := 165) (b' := (0, 0)) (b1 := b) (av := []) (rest := []) dX12_readsCondition_162 rfl lkX12_230 rfl rfl (Nat.le_of_ble_eq_true rfl) ⟨Nat.le_of_eq (Nat.zero_add _), Nat.le_of_eq (Nat.zero_add _)⟩ (skT_47 hS) ?_
      refine mC_mono (fun r h17 hr => ?_) K
      obtain ⟨x18, rfl, hS, K⟩ := hr
      show mW _ _ _ _ _ _ [.inl x18] _ _
      refine mw_bipush (pc' := 167) (v := 124) dX12_readsCondition_165 rfl (by decide) ?_
      refine mw_icmp_eq (pc' := 170) (tgt := 180) dX12_readsCondition_167 rfl (by decide) (fun c34 => ?_) (fun c34 => ?_)
      · replace K := K.1 c34
        refine mw_aload_n (pc' := 181) dX12_readsCondition_180 rfl rfl ?_
        refine mw_aload_n (pc' := 182) dX12_readsCondition_181 rfl rfl ?_
        refine mw_callV (pc' := 185) (b' := (0, 0)) (b1 := b) (av := []) (rest := [.inr (some 47)]) dX12_readsCondition_182 rfl lkX12_230 rfl rfl (Nat.le_of_ble_eq_true rfl) ⟨Nat.le_of_eq (Nat.zero_add _), Nat.le_of_eq (Nat.zero_add _)⟩ (skT_47 hS) ?_
        refine mC_mono (fun r h19 hr => ?_) K
        obtain ⟨x20, rfl, hS, K⟩ := hr
        show mW _ _ _ _ _ _ [.inl x20, .inr (some 47)] _ _
        refine mw_bipush (pc' := 187) (v := 124) dX12_readsCondition_185 rfl (by decide) ?_
        have J29 : ∀ w21 : Int32, w21 = (if ¬ x20 = 124 then 0 else 1) → mW G kX12_readsCondition (d + 6) b 195 [some (.inr (some 47))] ([.inl w21, .inr (some 47)]) h19 Q := by
          intro w21 ew21
          replace K := K w21 ew21
          refine mw_callV (pc' := 198) (b' := (0, 0)) (b1 := b) (av := [.inl w21]) (rest := []) dX12_readsCondition_195 rfl lkX12_295 rfl rfl (Nat.le_of_ble_eq_true rfl) ⟨Nat.le_of_eq (Nat.zero_add _), Nat.le_of_eq (Nat.zero_add _)⟩ (skT_47 hS) ?_
          refine mC_mono (fun r h22 hr => ?_) K
          obtain ⟨rfl, hS, K⟩ := hr
          show mW _ _ _ _ _ _ [] _ _
          refine mw_aload_n (pc' := 199) dX12_readsCondition_198 rfl rfl ?_
          refine mw_aload_n (pc' := 200) dX12_readsCondition_199 rfl rfl ?_
          refine mw_callV (pc' := 203) (b' := (0, 0)) (b1 := b) (av := []) (rest := [.inr (some 47)]) dX12_readsCondition_200 rfl lkX12_230 rfl rfl (Nat.le_of_ble_eq_true rfl) ⟨Nat.le_of_eq (Nat.zero_add _), Nat.le_of_eq (Nat.zero_add _)⟩ (skT_47 hS) ?_
          refine mC_mono (fun r h23 hr => ?_) K
          obtain ⟨x24, rfl, hS, K⟩ := hr
          show mW _ _ _ _ _ _ [.inl x24, .inr (some 47)] _ _
          refine mw_bipush (pc' := 205) (v := 38) dX12_readsCondition_203 rfl (by decide) ?_
          have J27 : ∀ w25 : Int32, w25 = (if ¬ x24 = 38 then 12 else 11) → mW G kX12_readsCondition (d + 6) b 215 [some (.inr (some 47))] ([.inl w25, .inr (some 47)]) h23 Q := by
            intro w25 ew25
            replace K := K w25 ew25
            refine mw_callV (pc' := 218) (b' := (0, 0)) (b1 := b) (av := [.inl w25]) (rest := []) dX12_readsCondition_215 rfl lkX12_298 rfl rfl (Nat.le_of_ble_eq_true rfl) ⟨Nat.le_of_eq (Nat.zero_add _), Nat.le_of_eq (Nat.zero_add _)⟩ (skT_47 hS) ?_
            refine mC_mono (fun r h26 hr => ?_) K
            obtain ⟨rfl, hS, K⟩ := hr
            show mW _ _ _ _ _ _ [] _ _
            refine mw_goto (tgt := 40) dX12_readsCondition_218 (by decide) ?_
            exact K
          refine mw_icmp_ne (pc' := 208) (tgt := 213) dX12_readsCondition_205 rfl (by decide) (fun c28 => ?_) (fun c28 => ?_)
          · refine mw_bipush (pc' := 215) (v := 12) dX12_readsCondition_213 rfl (by decide) ?_
            exact J27 _ (by rw [if_pos c28])
          · refine mw_bipush (pc' := 210) (v := 11) dX12_readsCondition_208 rfl (by decide) ?_
            refine mw_goto (tgt := 215) dX12_readsCondition_210 (by decide) ?_
            exact J27 _ (by rw [if_neg (fun z => z c28)])
        refine mw_icmp_ne (pc' := 190) (tgt := 194) dX12_readsCondition_187 rfl (by decide) (fun c30 => ?_) (fun c30 => ?_)
        · refine mw_iconst (pc' := 195) (v := 0) dX12_readsCondition_194 rfl (by decide) ?_
          exact J29 _ (by rw [if_pos c30])
        · refine mw_iconst (pc' := 191) (v := 1) dX12_readsCondition_190 rfl (by decide) ?_
          refine mw_goto (tgt := 195) dX12_readsCondition_191 (by decide) ?_
          exact J29 _ (by rw [if_neg (fun z => z c30)])
      · replace K := K.2 c34
        refine mw_aload_n (pc' := 171) dX12_readsCondition_170 rfl rfl ?_
        refine mw_iconst (pc' := 172) (v := 1) dX12_readsCondition_171 rfl (by decide) ?_
        refine mw_aload_n (pc' := 173) dX12_readsCondition_172 rfl rfl ?_
        refine mw_getI (pc' := 176) dX12_readsCondition_173 rfl flX12_224 rfl (skT_47 hS) ?_
        refine mw_callV (pc' := 179) (b' := (0, 0)) (b1 := b) (av := [.inl 1, .inl (mI h17 47 13)]) (rest := []) dX12_readsCondition_176 rfl lkX12_237 rfl rfl (Nat.le_of_ble_eq_true rfl) ⟨Nat.le_of_eq (Nat.zero_add _), Nat.le_of_eq (Nat.zero_add _)⟩ (skT_47 hS) ?_
        refine mC_mono (fun r h31 hr => ?_) K
        obtain ⟨x32, rfl, hS, K⟩ := hr
        show mW _ _ _ _ _ _ [.inl x32] _ _
        obtain ⟨o33, K⟩ := K
        exact mw_iret dX12_readsCondition_179 rfl (m_boolN o33) K
  · replace K := K.2 c42
    refine mw_aload_n (pc' := 102) dX12_readsCondition_101 rfl rfl ?_
    refine mw_iconst (pc' := 103) (v := 1) dX12_readsCondition_102 rfl (by decide) ?_
    refine mw_callV (pc' := 106) (b' := (0, 0)) (b1 := b) (av := [.inl 1]) (rest := []) dX12_readsCondition_103 rfl lkX12_295 rfl rfl (Nat.le_of_ble_eq_true rfl) ⟨Nat.le_of_eq (Nat.zero_add _), Nat.le_of_eq (Nat.zero_add _)⟩ (skT_47 hS) ?_
    refine mC_mono (fun r h36 hr => ?_) K
    obtain ⟨rfl, hS, K⟩ := hr
    show mW _ _ _ _ _ _ [] _ _
    refine mw_aload_n (pc' := 107) dX12_readsCondition_106 rfl rfl ?_
    refine mw_aload_n (pc' := 108) dX12_readsCondition_107 rfl rfl ?_
    refine mw_getI (pc' := 111) dX12_readsCondition_108 rfl flX12_254 rfl (skT_47 hS) ?_
    refine mw_iconst (pc' := 112) (v := 1) dX12_readsCondition_111 rfl (by decide) ?_
    refine mw_isub (pc' := 113) dX12_readsCondition_112 rfl ?_
    refine mw_putIK (pc' := 116) dX12_readsCondition_113 rfl flX12_254 rfl (Or.inl rfl) ⟨rfl, rfl⟩ (skT_47 hS) hS (fun h37 eh37 hS => ?_)
    replace K := K h37 eh37
    refine mw_aload_n (pc' := 117) dX12_readsCondition_116 rfl rfl ?_
    refine mw_aload_n (pc' := 118) dX12_readsCondition_117 rfl rfl ?_
    refine mw_getI (pc' := 121) dX12_readsCondition_118 rfl flX12_251 rfl (skT_47 hS) ?_
    refine mw_iconst (pc' := 122) (v := 1) dX12_readsCondition_121 rfl (by decide) ?_
    refine mw_isub (pc' := 123) dX12_readsCondition_122 rfl ?_
    refine mw_putIK (pc' := 126) dX12_readsCondition_123 rfl flX12_251 rfl (Or.inl rfl) ⟨rfl, rfl⟩ (skT_47 hS) hS (fun h38 eh38 hS => ?_)
    replace K := K h38 eh38
    refine mw_aload_n (pc' := 127) dX12_readsCondition_126 rfl rfl ?_
    refine mw_aload_n (pc' := 128) dX12_readsCondition_127 rfl rfl ?_
    refine mw_getI (pc' := 131) dX12_readsCondition_128 rfl flX12_224 rfl (skT_47 hS) ?_
    refine mw_iconst (pc' := 132) (v := 1) dX12_readsCondition_131 rfl (by decide) ?_
    refine mw_iadd (pc' := 133) dX12_readsCondition_132 rfl ?_
    refine mw_putIK (pc' := 136) dX12_readsCondition_133 rfl flX12_224 rfl (Or.inl rfl) ⟨rfl, rfl⟩ (skT_47 hS) hS (fun h39 eh39 hS => ?_)
    replace K := K h39 eh39
    refine mw_aload_n (pc' := 137) dX12_readsCondition_136 rfl rfl ?_
    refine mw_getI (pc' := 140) dX12_readsCondition_137 rfl flX12_254 rfl (skT_47 hS) ?_
    refine mw_if_ne (pc' := 143) (tgt := 145) dX12_readsCondition_140 rfl (by decide) (fun c41 => ?_) (fun c41 => ?_)
    · replace K := K.1 c41
      refine mw_aload_n (pc' := 146) dX12_readsCondition_145 rfl rfl ?_
      refine mw_callV (pc' := 149) (b' := (0, 0)) (b1 := b) (av := []) (rest := []) dX12_readsCondition_146 rfl lkX12_289 rfl rfl (Nat.le_of_ble_eq_true rfl) ⟨Nat.le_of_eq (Nat.zero_add _), Nat.le_of_eq (Nat.zero_add _)⟩ (skT_47 hS) ?_
      refine mC_mono (fun r h40 hr => ?_) K
      obtain ⟨rfl, hS, K⟩ := hr
      show mW _ _ _ _ _ _ [] _ _
      refine mw_goto (tgt := 92) dX12_readsCondition_149 (by decide) ?_
      exact K
    · replace K := K.2 c41
      refine mw_iconst (pc' := 144) (v := 1) dX12_readsCondition_143 rfl (by decide) ?_
      exact mw_iret dX12_readsCondition_144 rfl (by decide) K

set_option maxRecDepth 100000 in
set_option maxHeartbeats 4000000 in
theorem qX12_readsClause {G : mG} {d : Nat} {b : Nat × Nat} {h : mH} {Q : Option mV → mH → Prop}  (hS : mSk h)
    (K : mC G kX12_here (d + 6) (0, 0) [.inr (some 47)] h (fun r h1 => ∃ x2, r = some (.inl x2) ∧ mSk h1 ∧ ((x2 = 118 → ((¬ (mI h1 47 19) = 12 → ∀ h3, h3 = mSI h1 47 13 ((mI h1 47 13) + 1) → vp_in (mI h3 47 19) 12 ∧ ∀ h5, h5 = mSI h3 60 (mI h3 47 19).toNatClampNeg (mI h3 47 17) → ∀ h6, h6 = mSI h5 47 16 0 → ∀ h7, h7 = mSI h6 47 18 0 → mC G kX12_readsSum (d + 6) (0, 0) [.inr (some 47)] h7 (fun r h8 => ∃ x9, r = some (.inl x9) ∧ mSk h8 ∧ ((¬ x9 = 0 → vp_in (mI h8 47 19) 12 ∧ ∀ h11, h11 = mSI h8 61 (mI h8 47 19).toNatClampNeg (mI h8 47 17) → mC G kX12_readsCondition (d + 6) (0, 0) [.inr (some 47)] h11 (fun r h12 => ∃ x13, r = some (.inl x13) ∧ mSk h12 ∧ ((¬ x13 = 0 → vp_in (mI h12 47 19) 12 ∧ ∀ h15, h15 = mSI h12 62 (mI h12 47 19).toNatClampNeg (mI h12 47 17) → ∀ h16, h16 = mSI h15 47 19 ((mI h15 47 19) + 1) → Q (some (.inl 1)) h16) ∧ (x13 = 0 → Q (some (.inl 0)) h12)))) ∧ (x9 = 0 → Q (some (.inl 0)) h8)))) ∧ ((mI h1 47 19) = 12 → mC G kX12_wrongAt (d + 6) (0, 0) [.inr (some 47), .inl 4, .inl (mI h1 47 13)] h1 (fun r h19 => ∃ x20, r = some (.inl x20) ∧ mSk h19 ∧ m_bool x20 ∧ Q (some (.inl x20)) h19)))) ∧ (¬ x2 = 118 → mC G kX12_wrongAt (d + 6) (0, 0) [.inr (some 47), .inl 1, .inl (mI h1 47 13)] h1 (fun r h23 => ∃ x24, r = some (.inl x24) ∧ mSk h23 ∧ m_bool x24 ∧ Q (some (.inl x24)) h23))))) : mC G kX12_readsClause (d + 7) b [.inr (some 47)] h Q := by
  refine mC_in rfl (Nat.le_of_ble_eq_true rfl) ?_
  show mW _ _ _ _ _ [some (.inr (some 47))] _ _ _
  refine mw_aload_n (pc' := 1) dX12_readsClause_0 rfl rfl ?_
  refine mw_callV (pc' := 4) (b' := (0, 0)) (b1 := b) (av := []) (rest := []) dX12_readsClause_1 rfl lkX12_230 rfl rfl (Nat.le_of_ble_eq_true rfl) ⟨Nat.le_of_eq (Nat.zero_add _), Nat.le_of_eq (Nat.zero_add _)⟩ (skT_47 hS) ?_
  refine mC_mono (fun r h1 hr => ?_) K
  obtain ⟨x2, rfl, hS, K⟩ := hr
  show mW _ _ _ _ _ _ [.inl x2] _ _
  refine mw_bipush (pc' := 6) (v := 118) dX12_readsClause_4 rfl (by decide) ?_
  refine mw_icmp_eq (pc' := 9) (tgt := 19) dX12_readsClause_6 rfl (by decide) (fun c26 => ?_) (fun c26 => ?_)
  · replace K := K.1 c26
    refine mw_aload_n (pc' := 20) dX12_readsClause_19 rfl rfl ?_
    refine mw_getI (pc' := 23) dX12_readsClause_20 rfl flX12_301 rfl (skT_47 hS) ?_
    refine mw_bipush (pc' := 25) (v := 12) dX12_readsClause_23 rfl (by decide) ?_
    refine mw_icmp_ne (pc' := 28) (tgt := 38) dX12_readsClause_25 rfl (by decide) (fun c22 => ?_) (fun c22 => ?_)
    · replace K := K.1 c22
      refine mw_aload_n (pc' := 39) dX12_readsClause_38 rfl rfl ?_
      refine mw_aload_n (pc' := 40) dX12_readsClause_39 rfl rfl ?_
      refine mw_getI (pc' := 43) dX12_readsClause_40 rfl flX12_224 rfl (skT_47 hS) ?_
      refine mw_iconst (pc' := 44) (v := 1) dX12_readsClause_43 rfl (by decide) ?_
      refine mw_iadd (pc' := 45) dX12_readsClause_44 rfl ?_
      refine mw_putIK (pc' := 48) dX12_readsClause_45 rfl flX12_224 rfl (Or.inl rfl) ⟨rfl, rfl⟩ (skT_47 hS) hS (fun h3 eh3 hS => ?_)
      replace K := K h3 eh3
      refine mw_aload_n (pc' := 49) dX12_readsClause_48 rfl rfl ?_
      refine mw_getR (pc' := 52) dX12_readsClause_49 rfl flX12_48 rfl (skT_47 hS) ?_
      rw [skR_47_24 hS]
      refine mw_aload_n (pc' := 53) dX12_readsClause_52 rfl rfl ?_
      refine mw_getI (pc' := 56) dX12_readsClause_53 rfl flX12_301 rfl (skT_47 hS) ?_
      refine mw_aload_n (pc' := 57) dX12_readsClause_56 rfl rfl ?_
      refine mw_getI (pc' := 60) dX12_readsClause_57 rfl flX12_247 rfl (skT_47 hS) ?_
      obtain ⟨o4, K⟩ := K
      refine mw_iastK (pc' := 61) dX12_readsClause_60 rfl (skT_60 hS) (skL_60 hS) o4 hS (fun h5 eh5 hS => ?_)
      replace K := K h5 eh5
      refine mw_aload_n (pc' := 62) dX12_readsClause_61 rfl rfl ?_
      refine mw_iconst (pc' := 63) (v := 0) dX12_readsClause_62 rfl (by decide) ?_
      refine mw_putIK (pc' := 66) dX12_readsClause_63 rfl flX12_251 rfl (Or.inl rfl) ⟨rfl, rfl⟩ (skT_47 hS) hS (fun h6 eh6 hS => ?_)
      replace K := K h6 eh6
      refine mw_aload_n (pc' := 67) dX12_readsClause_66 rfl rfl ?_
      refine mw_iconst (pc' := 68) (v := 0) dX12_readsClause_67 rfl (by decide) ?_
      refine mw_putIK (pc' := 71) dX12_readsClause_68 rfl flX12_254 rfl (Or.inl rfl) ⟨rfl, rfl⟩ (skT_47 hS) hS (fun h7 eh7 hS => ?_)
      replace K := K h7 eh7
      refine mw_aload_n (pc' := 72) dX12_readsClause_71 rfl rfl ?_
      refine mw_callV (pc' := 75) (b' := (0, 0)) (b1 := b) (av := []) (rest := []) dX12_readsClause_72 rfl lkX12_286 rfl rfl (Nat.le_of_ble_eq_true rfl) ⟨Nat.le_of_eq (Nat.zero_add _), Nat.le_of_eq (Nat.zero_add _)⟩ (skT_47 hS) ?_
      refine mC_mono (fun r h8 hr => ?_) K
      obtain ⟨x9, rfl, hS, K⟩ := hr
      show mW _ _ _ _ _ _ [.inl x9] _ _
      refine mw_if_ne (pc' := 78) (tgt := 80) dX12_readsClause_75 rfl (by decide) (fun c18 => ?_) (fun c18 => ?_)
      · replace K := K.1 c18
        refine mw_aload_n (pc' := 81) dX12_readsClause_80 rfl rfl ?_
        refine mw_getR (pc' := 84) dX12_readsClause_81 rfl flX12_51 rfl (skT_47 hS) ?_
        rw [skR_47_25 hS]
        refine mw_aload_n (pc' := 85) dX12_readsClause_84 rfl rfl ?_
        refine mw_getI (pc' := 88) dX12_readsClause_85 rfl flX12_301 rfl (skT_47 hS) ?_
        refine mw_aload_n (pc' := 89) dX12_readsClause_88 rfl rfl ?_
        refine mw_getI (pc' := 92) dX12_readsClause_89 rfl flX12_247 rfl (skT_47 hS) ?_
        obtain ⟨o10, K⟩ := K
        refine mw_iastK (pc' := 93) dX12_readsClause_92 rfl (skT_61 hS) (skL_61 hS) o10 hS (fun h11 eh11 hS => ?_)
        replace K := K h11 eh11
        refine mw_aload_n (pc' := 94) dX12_readsClause_93 rfl rfl ?_
        refine mw_callV (pc' := 97) (b' := (0, 0)) (b1 := b) (av := []) (rest := []) dX12_readsClause_94 rfl lkX12_304 rfl rfl (Nat.le_of_ble_eq_true rfl) ⟨Nat.le_of_eq (Nat.zero_add _), Nat.le_of_eq (Nat.zero_add _)⟩ (skT_47 hS) ?_
        refine mC_mono (fun r h12 hr => ?_) K
        obtain ⟨x13, rfl, hS, K⟩ := hr
        show mW _ _ _ _ _ _ [.inl x13] _ _
        refine mw_if_ne (pc' := 100) (tgt := 102) dX12_readsClause_97 rfl (by decide) (fun c17 => ?_) (fun c17 => ?_)
        · replace K := K.1 c17
          refine mw_aload_n (pc' := 103) dX12_readsClause_102 rfl rfl ?_
          refine mw_getR (pc' := 106) dX12_readsClause_103 rfl flX12_54 rfl (skT_47 hS) ?_
          rw [skR_47_26 hS]
          refine mw_aload_n (pc' := 107) dX12_readsClause_106 rfl rfl ?_
          refine mw_getI (pc' := 110) dX12_readsClause_107 rfl flX12_301 rfl (skT_47 hS) ?_
          refine mw_aload_n (pc' := 111) dX12_readsClause_110 rfl rfl ?_
          refine mw_getI (pc' := 114) dX12_readsClause_111 rfl flX12_247 rfl (skT_47 hS) ?_
          obtain ⟨o14, K⟩ := K
          refine mw_iastK (pc' := 115) dX12_readsClause_114 rfl (skT_62 hS) (skL_62 hS) o14 hS (fun h15 eh15 hS => ?_)
          replace K := K h15 eh15
          refine mw_aload_n (pc' := 116) dX12_readsClause_115 rfl rfl ?_
          refine mw_aload_n (pc' := 117) dX12_readsClause_116 rfl rfl ?_
          refine mw_getI (pc' := 120) dX12_readsClause_117 rfl flX12_301 rfl (skT_47 hS) ?_
          refine mw_iconst (pc' := 121) (v := 1) dX12_readsClause_120 rfl (by decide) ?_
          refine mw_iadd (pc' := 122) dX12_readsClause_121 rfl ?_
          refine mw_putIK (pc' := 125) dX12_readsClause_122 rfl flX12_301 rfl (Or.inl rfl) ⟨rfl, rfl⟩ (skT_47 hS) hS (fun h16 eh16 hS => ?_)
          replace K := K h16 eh16
          refine mw_iconst (pc' := 126) (v := 1) dX12_readsClause_125 rfl (by decide) ?_
          exact mw_iret dX12_readsClause_126 rfl (by decide) K
        · replace K := K.2 c17
          refine mw_iconst (pc' := 101) (v := 0) dX12_readsClause_100 rfl (by decide) ?_
          exact mw_iret dX12_readsClause_101 rfl (by decide) K
      · replace K := K.2 c18
        refine mw_iconst (pc' := 79) (v := 0) dX12_readsClause_78 rfl (by decide) ?_
        exact mw_iret dX12_readsClause_79 rfl (by decide) K
    · replace K := K.2 c22
      refine mw_aload_n (pc' := 29) dX12_readsClause_28 rfl rfl ?_
      refine mw_iconst (pc' := 30) (v := 4) dX12_readsClause_29 rfl (by decide) ?_
      refine mw_aload_n (pc' := 31) dX12_readsClause_30 rfl rfl ?_
      refine mw_getI (pc' := 34) dX12_readsClause_31 rfl flX12_224 rfl (skT_47 hS) ?_
      refine mw_callV (pc' := 37) (b' := (0, 0)) (b1 := b) (av := [.inl 4, .inl (mI h1 47 13)]) (rest := []) dX12_readsClause_34 rfl lkX12_237 rfl rfl (Nat.le_of_ble_eq_true rfl) ⟨Nat.le_of_eq (Nat.zero_add _), Nat.le_of_eq (Nat.zero_add _)⟩ (skT_47 hS) ?_
      refine mC_mono (fun r h19 hr => ?_) K
      obtain ⟨x20, rfl, hS, K⟩ := hr
      show mW _ _ _ _ _ _ [.inl x20] _ _
      obtain ⟨o21, K⟩ := K
      exact mw_iret dX12_readsClause_37 rfl (m_boolN o21) K
  · replace K := K.2 c26
    refine mw_aload_n (pc' := 10) dX12_readsClause_9 rfl rfl ?_
    refine mw_iconst (pc' := 11) (v := 1) dX12_readsClause_10 rfl (by decide) ?_
    refine mw_aload_n (pc' := 12) dX12_readsClause_11 rfl rfl ?_
    refine mw_getI (pc' := 15) dX12_readsClause_12 rfl flX12_224 rfl (skT_47 hS) ?_
    refine mw_callV (pc' := 18) (b' := (0, 0)) (b1 := b) (av := [.inl 1, .inl (mI h1 47 13)]) (rest := []) dX12_readsClause_15 rfl lkX12_237 rfl rfl (Nat.le_of_ble_eq_true rfl) ⟨Nat.le_of_eq (Nat.zero_add _), Nat.le_of_eq (Nat.zero_add _)⟩ (skT_47 hS) ?_
    refine mC_mono (fun r h23 hr => ?_) K
    obtain ⟨x24, rfl, hS, K⟩ := hr
    show mW _ _ _ _ _ _ [.inl x24] _ _
    obtain ⟨o25, K⟩ := K
    exact mw_iret dX12_readsClause_18 rfl (m_boolN o25) K

set_option maxRecDepth 100000 in
set_option maxHeartbeats 4000000 in
theorem qX12_law {G : mG} {d : Nat} {b : Nat × Nat} {h : mH} {Q : Option mV → mH → Prop} (v1 : Int32) (hS : mSk h)
    (K : (((f_X12_in v1 1 160) = 0 → Q (some (.inl (-1))) h) ∧ (¬ (f_X12_in v1 1 160) = 0 → ((v1 ≤ (mI h 47 12) → ∀ h1, h1 = mSI h 47 13 0 → ∀ h2, h2 = mSI h1 47 14 v1 → ∀ h3, h3 = mSI h2 47 17 0 → ∀ h4, h4 = mSI h3 47 19 0 → mC G kX12_readsClause (d + 7) (0, 0) [.inr (some 47)] h4 (fun r h5 => ∃ x6, r = some (.inl x6) ∧ mSk h5 ∧ mW G kX12_law (d + 8) b 46 [some (.inr (some 47)), none, some (.inl x6), none] [] h5 Q)) ∧ (¬ (v1 ≤ (mI h 47 12)) → Q (some (.inl (-1))) h))))) : mC G kX12_law (d + 8) b [.inr (some 47), .inl v1] h Q := by
  refine mC_in rfl (Nat.le_of_ble_eq_true rfl) ?_
  show mW _ _ _ _ _ [some (.inr (some 47)), some (.inl v1), none, none] _ _ _
  refine mw_iload_n (pc' := 1) dX12_law_0 rfl rfl ?_
  refine mw_iconst (pc' := 2) (v := 1) dX12_law_1 rfl (by decide) ?_
  refine mw_sipush (pc' := 5) (v := 160) dX12_law_2 rfl (by decide) ?_
  refine mw_callS (pc' := 8) (b' := (0, 0)) (b1 := b) (av := [.inl v1, .inl 1, .inl 160]) (rest := []) dX12_law_5 rfl lkX12_173 rfl rfl (Nat.le_of_ble_eq_true rfl) ⟨Nat.le_of_eq (Nat.zero_add _), Nat.le_of_eq (Nat.zero_add _)⟩ ?_
  refine pX12_in ?_
  refine mw_if_eq (pc' := 11) (tgt := 19) dX12_law_8 rfl (by decide) (fun c8 => ?_) (fun c8 => ?_)
  · replace K := K.1 c8
    refine mw_iconst (pc' := 20) (v := (-1)) dX12_law_19 rfl (by decide) ?_
    exact mw_iret dX12_law_20 rfl rfl K
  · replace K := K.2 c8
    refine mw_iload_n (pc' := 12) dX12_law_11 rfl rfl ?_
    refine mw_aload_n (pc' := 13) dX12_law_12 rfl rfl ?_
    refine mw_getI (pc' := 16) dX12_law_13 rfl flX12_176 rfl (skT_47 hS) ?_
    refine mw_icmp_le (pc' := 19) (tgt := 21) dX12_law_16 rfl (by decide) (fun c7 => ?_) (fun c7 => ?_)
    · replace K := K.1 c7
      refine mw_aload_n (pc' := 22) dX12_law_21 rfl rfl ?_
      refine mw_iconst (pc' := 23) (v := 0) dX12_law_22 rfl (by decide) ?_
      refine mw_putIK (pc' := 26) dX12_law_23 rfl flX12_224 rfl (Or.inl rfl) ⟨rfl, rfl⟩ (skT_47 hS) hS (fun h1 eh1 hS => ?_)
      replace K := K h1 eh1
      refine mw_aload_n (pc' := 27) dX12_law_26 rfl rfl ?_
      refine mw_iload_n (pc' := 28) dX12_law_27 rfl rfl ?_
      refine mw_putIK (pc' := 31) dX12_law_28 rfl flX12_227 rfl (Or.inl rfl) ⟨rfl, rfl⟩ (skT_47 hS) hS (fun h2 eh2 hS => ?_)
      replace K := K h2 eh2
      refine mw_aload_n (pc' := 32) dX12_law_31 rfl rfl ?_
      refine mw_iconst (pc' := 33) (v := 0) dX12_law_32 rfl (by decide) ?_
      refine mw_putIK (pc' := 36) dX12_law_33 rfl flX12_247 rfl (Or.inl rfl) ⟨rfl, rfl⟩ (skT_47 hS) hS (fun h3 eh3 hS => ?_)
      replace K := K h3 eh3
      refine mw_aload_n (pc' := 37) dX12_law_36 rfl rfl ?_
      refine mw_iconst (pc' := 38) (v := 0) dX12_law_37 rfl (by decide) ?_
      refine mw_putIK (pc' := 41) dX12_law_38 rfl flX12_301 rfl (Or.inl rfl) ⟨rfl, rfl⟩ (skT_47 hS) hS (fun h4 eh4 hS => ?_)
      replace K := K h4 eh4
      refine mw_aload_n (pc' := 42) dX12_law_41 rfl rfl ?_
      refine mw_callV (pc' := 45) (b' := (0, 0)) (b1 := b) (av := []) (rest := []) dX12_law_42 rfl lkX12_307 rfl rfl (Nat.le_of_ble_eq_true rfl) ⟨Nat.le_of_eq (Nat.zero_add _), Nat.le_of_eq (Nat.zero_add _)⟩ (skT_47 hS) ?_
      refine mC_mono (fun r h5 hr => ?_) K
      obtain ⟨x6, rfl, hS, K⟩ := hr
      show mW _ _ _ _ _ _ [.inl x6] _ _
      refine mw_istore_n (pc' := 46) dX12_law_45 rfl (by decide) ?_
      show mW _ _ _ _ _ [some (.inr (some 47)), some (.inl v1), some (.inl x6), none] _ _ _
      refine mw_weak (ls' := [some (.inr (some 47)), none, some (.inl x6), none]) ?_ ?_
      · intro i v hv; match i, hv with
        | 0, hv => exact hv
        | 1, hv => cases hv
        | 2, hv => exact hv
        | 3, hv => cases hv
        | n + 4, hv => cases hv
      exact K
    · replace K := K.2 c7
      refine mw_iconst (pc' := 20) (v := (-1)) dX12_law_19 rfl (by decide) ?_
      exact mw_iret dX12_law_20 rfl rfl K

set_option maxRecDepth 100000 in
set_option maxHeartbeats 4000000 in
theorem qX12_law_46 {G : mG} {d : Nat} {b : Nat × Nat} {h : mH} {Q : Option mV → mH → Prop} (v2 : Int32) (hS : mSk h)
    (K : ((v2 = 0 → ∀ h1, h1 = mSI h 47 12 0 → ((¬ v2 = 0 → ∀ h2, h2 = mSI h1 47 21 (mI h1 47 19) → mW G kX12_law (d + 8) b 110 [some (.inr (some 47)), none, none, some (.inl 0)] [] h2 Q) ∧ (v2 = 0 → Q (some (.inl (mI h1 47 15))) h1))) ∧ (¬ v2 = 0 → (((mI h 47 14) ≤ (mI h 47 13) → ∀ h4, h4 = mSI h 47 12 0 → ((¬ v2 = 0 → ∀ h5, h5 = mSI h4 47 21 (mI h4 47 19) → mW G kX12_law (d + 8) b 110 [some (.inr (some 47)), none, none, some (.inl 0)] [] h5 Q) ∧ (v2 = 0 → Q (some (.inl (mI h4 47 15))) h4))) ∧ (¬ ((mI h 47 14) ≤ (mI h 47 13)) → mC G kX12_takes (d + 7) (0, 0) [.inr (some 47), .inl 59] h (fun r h7 => ∃ x8, r = some (.inl x8) ∧ mSk h7 ∧ ((x8 = 0 → mW G kX12_law (d + 8) b 46 [some (.inr (some 47)), none, some (.inl 0), none] [] h7 Q) ∧ (¬ x8 = 0 → mC G kX12_readsClause (d + 7) (0, 0) [.inr (some 47)] h7 (fun r h9 => ∃ x10, r = some (.inl x10) ∧ mSk h9 ∧ ∀ w11 : Int32, w11 = (if x10 = 0 then 0 else 1) → mW G kX12_law (d + 8) b 46 [some (.inr (some 47)), none, some (.inl w11), none] [] h9 Q))))))))) : mW G kX12_law (d + 8) b 46 [some (.inr (some 47)), none, some (.inl v2), none] [] h Q := by
  refine mw_iload_n (pc' := 47) dX12_law_46 rfl rfl ?_
  refine mw_if_eq (pc' := 50) (tgt := 86) dX12_law_47 rfl (by decide) (fun c16 => ?_) (fun c16 => ?_)
  · replace K := K.1 c16
    refine mw_aload_n (pc' := 87) dX12_law_86 rfl rfl ?_
    refine mw_iconst (pc' := 88) (v := 0) dX12_law_87 rfl (by decide) ?_
    refine mw_putIK (pc' := 91) dX12_law_88 rfl flX12_176 rfl (Or.inl rfl) ⟨rfl, rfl⟩ (skT_47 hS) hS (fun h1 eh1 hS => ?_)
    replace K := K h1 eh1
    refine mw_iload_n (pc' := 92) dX12_law_91 rfl rfl ?_
    refine mw_if_ne (pc' := 95) (tgt := 100) dX12_law_92 rfl (by decide) (fun c3 => ?_) (fun c3 => ?_)
    · replace K := K.1 c3
      refine mw_aload_n (pc' := 101) dX12_law_100 rfl rfl ?_
      refine mw_aload_n (pc' := 102) dX12_law_101 rfl rfl ?_
      refine mw_getI (pc' := 105) dX12_law_102 rfl flX12_301 rfl (skT_47 hS) ?_
      refine mw_putIK (pc' := 108) dX12_law_105 rfl flX12_313 rfl (Or.inl rfl) ⟨rfl, rfl⟩ (skT_47 hS) hS (fun h2 eh2 hS => ?_)
      replace K := K h2 eh2
      refine mw_iconst (pc' := 109) (v := 0) dX12_law_108 rfl (by decide) ?_
      refine mw_istore_n (pc' := 110) dX12_law_109 rfl (by decide) ?_
      show mW _ _ _ _ _ [some (.inr (some 47)), none, some (.inl v2), some (.inl 0)] _ _ _
      refine mw_weak (ls' := [some (.inr (some 47)), none, none, some (.inl 0)]) ?_ ?_
      · intro i v hv; match i, hv with
        | 0, hv => exact hv
        | 1, hv => cases hv
        | 2, hv => cases hv
        | 3, hv => exact hv
        | n + 4, hv => cases hv
      exact K
    · replace K := K.2 c3
      refine mw_aload_n (pc' := 96) dX12_law_95 rfl rfl ?_
      refine mw_getI (pc' := 99) dX12_law_96 rfl flX12_234 rfl (skT_47 hS) ?_
      exact mw_iret dX12_law_99 rfl rfl K
  · replace K := K.2 c16
    refine mw_aload_n (pc' := 51) dX12_law_50 rfl rfl ?_
    refine mw_getI (pc' := 54) dX12_law_51 rfl flX12_224 rfl (skT_47 hS) ?_
    refine mw_aload_n (pc' := 55) dX12_law_54 rfl rfl ?_
    refine mw_getI (pc' := 58) dX12_law_55 rfl flX12_227 rfl (skT_47 hS) ?_
    refine mw_icmp_ge (pc' := 61) (tgt := 86) dX12_law_58 rfl (by decide) (fun c15 => ?_) (fun c15 => ?_)
    · replace K := K.1 c15
      refine mw_aload_n (pc' := 87) dX12_law_86 rfl rfl ?_
      refine mw_iconst (pc' := 88) (v := 0) dX12_law_87 rfl (by decide) ?_
      refine mw_putIK (pc' := 91) dX12_law_88 rfl flX12_176 rfl (Or.inl rfl) ⟨rfl, rfl⟩ (skT_47 hS) hS (fun h4 eh4 hS => ?_)
      replace K := K h4 eh4
      refine mw_iload_n (pc' := 92) dX12_law_91 rfl rfl ?_
      refine mw_if_ne (pc' := 95) (tgt := 100) dX12_law_92 rfl (by decide) (fun c6 => ?_) (fun c6 => ?_)
      · replace K := K.1 c6
        refine mw_aload_n (pc' := 101) dX12_law_100 rfl rfl ?_
        refine mw_aload_n (pc' := 102) dX12_law_101 rfl rfl ?_
        refine mw_getI (pc' := 105) dX12_law_102 rfl flX12_301 rfl (skT_47 hS) ?_
        refine mw_putIK (pc' := 108) dX12_law_105 rfl flX12_313 rfl (Or.inl rfl) ⟨rfl, rfl⟩ (skT_47 hS) hS (fun h5 eh5 hS => ?_)
        replace K := K h5 eh5
        refine mw_iconst (pc' := 109) (v := 0) dX12_law_108 rfl (by decide) ?_
        refine mw_istore_n (pc' := 110) dX12_law_109 rfl (by decide) ?_
        show mW _ _ _ _ _ [some (.inr (some 47)), none, some (.inl v2), some (.inl 0)] _ _ _
        refine mw_weak (ls' := [some (.inr (some 47)), none, none, some (.inl 0)]) ?_ ?_
        · intro i v hv; match i, hv with
          | 0, hv => exact hv
          | 1, hv => cases hv
          | 2, hv => cases hv
          | 3, hv => exact hv
          | n + 4, hv => cases hv
        exact K
      · replace K := K.2 c6
        refine mw_aload_n (pc' := 96) dX12_law_95 rfl rfl ?_
        refine mw_getI (pc' := 99) dX12_law_96 rfl flX12_234 rfl (skT_47 hS) ?_
        exact mw_iret dX12_law_99 rfl rfl K
    · replace K := K.2 c15
      refine mw_aload_n (pc' := 62) dX12_law_61 rfl rfl ?_
      refine mw_bipush (pc' := 64) (v := 59) dX12_law_62 rfl (by decide) ?_
      refine mw_callV (pc' := 67) (b' := (0, 0)) (b1 := b) (av := [.inl 59]) (rest := []) dX12_law_64 rfl lkX12_310 rfl rfl (Nat.le_of_ble_eq_true rfl) ⟨Nat.le_of_eq (Nat.zero_add _), Nat.le_of_eq (Nat.zero_add _)⟩ (skT_47 hS) ?_
      refine mC_mono (fun r h7 hr => ?_) K
      obtain ⟨x8, rfl, hS, K⟩ := hr
      show mW _ _ _ _ _ _ [.inl x8] _ _
      refine mw_if_eq (pc' := 70) (tgt := 81) dX12_law_67 rfl (by decide) (fun c14 => ?_) (fun c14 => ?_)
      · replace K := K.1 c14
        refine mw_iconst (pc' := 82) (v := 0) dX12_law_81 rfl (by decide) ?_
        refine mw_istore_n (pc' := 83) dX12_law_82 rfl (by decide) ?_
        show mW _ _ _ _ _ [some (.inr (some 47)), none, some (.inl 0), none] _ _ _
        refine mw_goto (tgt := 46) dX12_law_83 (by decide) ?_
        exact K
      · replace K := K.2 c14
        refine mw_aload_n (pc' := 71) dX12_law_70 rfl rfl ?_
        refine mw_callV (pc' := 74) (b' := (0, 0)) (b1 := b) (av := []) (rest := []) dX12_law_71 rfl lkX12_307 rfl rfl (Nat.le_of_ble_eq_true rfl) ⟨Nat.le_of_eq (Nat.zero_add _), Nat.le_of_eq (Nat.zero_add _)⟩ (skT_47 hS) ?_
        refine mC_mono (fun r h9 hr => ?_) K
        obtain ⟨x10, rfl, hS, K⟩ := hr
        show mW _ _ _ _ _ _ [.inl x10] _ _
        have J12 : ∀ w11 : Int32, w11 = (if x10 = 0 then 0 else 1) → mW G kX12_law (d + 8) b 82 [some (.inr (some 47)), none, some (.inl v2), none] ([.inl w11]) h9 Q := by
          intro w11 ew11
          replace K := K w11 ew11
          refine mw_istore_n (pc' := 83) dX12_law_82 rfl (by decide) ?_
          show mW _ _ _ _ _ [some (.inr (some 47)), none, some (.inl w11), none] _ _ _
          refine mw_goto (tgt := 46) dX12_law_83 (by decide) ?_
          exact K
        refine mw_if_eq (pc' := 77) (tgt := 81) dX12_law_74 rfl (by decide) (fun c13 => ?_) (fun c13 => ?_)
        · refine mw_iconst (pc' := 82) (v := 0) dX12_law_81 rfl (by decide) ?_
          exact J12 _ (by rw [if_pos c13])
        · refine mw_iconst (pc' := 78) (v := 1) dX12_law_77 rfl (by decide) ?_
          refine mw_goto (tgt := 82) dX12_law_78 (by decide) ?_
          exact J12 _ (by rw [if_neg c13])

set_option maxRecDepth 100000 in
set_option maxHeartbeats 4000000 in
theorem qX12_law_110 {G : mG} {d : Nat} {b : Nat × Nat} {h : mH} {Q : Option mV → mH → Prop} (v3 : Int32) (hS : mSk h)
    (K : (((mI h 47 17) ≤ v3 → mW G kX12_law (d + 8) b 138 [some (.inr (some 47)), none, none, some (.inl 0)] [] h Q) ∧ (¬ ((mI h 47 17) ≤ v3) → vp_in v3 180 ∧ vp_in v3 180 ∧ ∀ h3, h3 = mSI h 63 v3.toNatClampNeg (mI h 58 v3.toNatClampNeg) → mW G kX12_law (d + 8) b 110 [some (.inr (some 47)), none, none, some (.inl (v3 + 1))] [] h3 Q))) : mW G kX12_law (d + 8) b 110 [some (.inr (some 47)), none, none, some (.inl v3)] [] h Q := by
  refine mw_iload_n (pc' := 111) dX12_law_110 rfl rfl ?_
  refine mw_aload_n (pc' := 112) dX12_law_111 rfl rfl ?_
  refine mw_getI (pc' := 115) dX12_law_112 rfl flX12_247 rfl (skT_47 hS) ?_
  refine mw_icmp_ge (pc' := 118) (tgt := 136) dX12_law_115 rfl (by decide) (fun c4 => ?_) (fun c4 => ?_)
  · replace K := K.1 c4
    refine mw_iconst (pc' := 137) (v := 0) dX12_law_136 rfl (by decide) ?_
    refine mw_istore_n (pc' := 138) dX12_law_137 rfl (by decide) ?_
    show mW _ _ _ _ _ [some (.inr (some 47)), none, none, some (.inl 0)] _ _ _
    exact K
  · replace K := K.2 c4
    refine mw_aload_n (pc' := 119) dX12_law_118 rfl rfl ?_
    refine mw_getR (pc' := 122) dX12_law_119 rfl flX12_57 rfl (skT_47 hS) ?_
    rw [skR_47_27 hS]
    refine mw_iload_n (pc' := 123) dX12_law_122 rfl rfl ?_
    refine mw_aload_n (pc' := 124) dX12_law_123 rfl rfl ?_
    refine mw_getR (pc' := 127) dX12_law_124 rfl flX12_42 rfl (skT_47 hS) ?_
    rw [skR_47_22 hS]
    refine mw_iload_n (pc' := 128) dX12_law_127 rfl rfl ?_
    obtain ⟨o1, K⟩ := K
    refine mw_ialdL (pc' := 129) dX12_law_128 rfl (skT_58 hS) (skL_58 hS) o1 ?_
    obtain ⟨o2, K⟩ := K
    refine mw_iastK (pc' := 130) dX12_law_129 rfl (skT_63 hS) (skL_63 hS) o2 hS (fun h3 eh3 hS => ?_)
    replace K := K h3 eh3
    refine mw_iinc (pc' := 133) (v := v3 + 1) dX12_law_130 rfl (by decide) rfl rfl ?_
    show mW _ _ _ _ _ [some (.inr (some 47)), none, none, some (.inl (v3 + 1))] _ _ _
    refine mw_goto (tgt := 110) dX12_law_133 (by decide) ?_
    exact K

set_option maxRecDepth 100000 in
set_option maxHeartbeats 4000000 in
theorem qX12_law_138 {G : mG} {d : Nat} {b : Nat × Nat} {h : mH} {Q : Option mV → mH → Prop} (v3 : Int32) (hS : mSk h)
    (K : (((mI h 47 19) ≤ v3 → Q (some (.inl (mI h 47 19))) h) ∧ (¬ ((mI h 47 19) ≤ v3) → vp_in v3 12 ∧ vp_in v3 12 ∧ ∀ h3, h3 = mSI h 64 v3.toNatClampNeg (mI h 60 v3.toNatClampNeg) → vp_in v3 12 ∧ vp_in v3 12 ∧ ∀ h6, h6 = mSI h3 65 v3.toNatClampNeg (mI h3 61 v3.toNatClampNeg) → vp_in v3 12 ∧ vp_in v3 12 ∧ ∀ h9, h9 = mSI h6 66 v3.toNatClampNeg (mI h6 62 v3.toNatClampNeg) → mW G kX12_law (d + 8) b 138 [some (.inr (some 47)), none, none, some (.inl (v3 + 1))] [] h9 Q))) : mW G kX12_law (d + 8) b 138 [some (.inr (some 47)), none, none, some (.inl v3)] [] h Q := by
  refine mw_iload_n (pc' := 139) dX12_law_138 rfl rfl ?_
  refine mw_aload_n (pc' := 140) dX12_law_139 rfl rfl ?_
  refine mw_getI (pc' := 143) dX12_law_140 rfl flX12_301 rfl (skT_47 hS) ?_
  refine mw_icmp_ge (pc' := 146) (tgt := 188) dX12_law_143 rfl (by decide) (fun c10 => ?_) (fun c10 => ?_)
  · replace K := K.1 c10
    refine mw_aload_n (pc' := 189) dX12_law_188 rfl rfl ?_
    refine mw_getI (pc' := 192) dX12_law_189 rfl flX12_301 rfl (skT_47 hS) ?_
    exact mw_iret dX12_law_192 rfl rfl K
  · replace K := K.2 c10
    refine mw_aload_n (pc' := 147) dX12_law_146 rfl rfl ?_
    refine mw_getR (pc' := 150) dX12_law_147 rfl flX12_60 rfl (skT_47 hS) ?_
    rw [skR_47_28 hS]
    refine mw_iload_n (pc' := 151) dX12_law_150 rfl rfl ?_
    refine mw_aload_n (pc' := 152) dX12_law_151 rfl rfl ?_
    refine mw_getR (pc' := 155) dX12_law_152 rfl flX12_48 rfl (skT_47 hS) ?_
    rw [skR_47_24 hS]
    refine mw_iload_n (pc' := 156) dX12_law_155 rfl rfl ?_
    obtain ⟨o1, K⟩ := K
    refine mw_ialdL (pc' := 157) dX12_law_156 rfl (skT_60 hS) (skL_60 hS) o1 ?_
    obtain ⟨o2, K⟩ := K
    refine mw_iastK (pc' := 158) dX12_law_157 rfl (skT_64 hS) (skL_64 hS) o2 hS (fun h3 eh3 hS => ?_)
    replace K := K h3 eh3
    refine mw_aload_n (pc' := 159) dX12_law_158 rfl rfl ?_
    refine mw_getR (pc' := 162) dX12_law_159 rfl flX12_63 rfl (skT_47 hS) ?_
    rw [skR_47_29 hS]
    refine mw_iload_n (pc' := 163) dX12_law_162 rfl rfl ?_
    refine mw_aload_n (pc' := 164) dX12_law_163 rfl rfl ?_
    refine mw_getR (pc' := 167) dX12_law_164 rfl flX12_51 rfl (skT_47 hS) ?_
    rw [skR_47_25 hS]
    refine mw_iload_n (pc' := 168) dX12_law_167 rfl rfl ?_
    obtain ⟨o4, K⟩ := K
    refine mw_ialdL (pc' := 169) dX12_law_168 rfl (skT_61 hS) (skL_61 hS) o4 ?_
    obtain ⟨o5, K⟩ := K
    refine mw_iastK (pc' := 170) dX12_law_169 rfl (skT_65 hS) (skL_65 hS) o5 hS (fun h6 eh6 hS => ?_)
    replace K := K h6 eh6
    refine mw_aload_n (pc' := 171) dX12_law_170 rfl rfl ?_
    refine mw_getR (pc' := 174) dX12_law_171 rfl flX12_66 rfl (skT_47 hS) ?_
    rw [skR_47_30 hS]
    refine mw_iload_n (pc' := 175) dX12_law_174 rfl rfl ?_
    refine mw_aload_n (pc' := 176) dX12_law_175 rfl rfl ?_
    refine mw_getR (pc' := 179) dX12_law_176 rfl flX12_54 rfl (skT_47 hS) ?_
    rw [skR_47_26 hS]
    refine mw_iload_n (pc' := 180) dX12_law_179 rfl rfl ?_
    obtain ⟨o7, K⟩ := K
    refine mw_ialdL (pc' := 181) dX12_law_180 rfl (skT_62 hS) (skL_62 hS) o7 ?_
    obtain ⟨o8, K⟩ := K
    refine mw_iastK (pc' := 182) dX12_law_181 rfl (skT_66 hS) (skL_66 hS) o8 hS (fun h9 eh9 hS => ?_)
    replace K := K h9 eh9
    refine mw_iinc (pc' := 185) (v := v3 + 1) dX12_law_182 rfl (by decide) rfl rfl ?_
    show mW _ _ _ _ _ [some (.inr (some 47)), none, none, some (.inl (v3 + 1))] _ _ _
    refine mw_goto (tgt := 138) dX12_law_185 (by decide) ?_
    exact K

set_option maxRecDepth 100000 in
set_option maxHeartbeats 4000000 in
theorem qX12_reckon {G : mG} {d : Nat} {b : Nat × Nat} {h : mH} {Q : Option mV → mH → Prop} (v1 : Int32) (v2 : Int32) (v3 : Int32) (hS : mSk h)
    (K : ((((v1).toInt < 2 ∨ 8 < (v1).toInt) → ∀ w2 : Int32, w2 = (if ¬ v2 = v3 then 0 else 1) → Q (some (.inl w2)) h) ∧ (v1 = 2 → Q (some (.inl (v2 + v3))) h) ∧ (v1 = 3 → Q (some (.inl (v2 - v3))) h) ∧ (v1 = 4 → Q (some (.inl (v2 * v3))) h) ∧ (v1 = 5 → ¬ v3 = 0 ∧ Q (some (.inl (v2 / v3))) h) ∧ (v1 = 6 → ¬ v3 = 0 ∧ Q (some (.inl (m_rem v2 v3))) h) ∧ (v1 = 7 → ∀ w7 : Int32, w7 = (if v3 ≤ v2 then 0 else 1) → Q (some (.inl w7)) h) ∧ (v1 = 8 → ∀ w10 : Int32, w10 = (if v2 ≤ v3 then 0 else 1) → Q (some (.inl w10)) h))) : mC G kX12_reckon d b [.inl v1, .inl v2, .inl v3] h Q := by
  refine mC_in rfl (Nat.le_of_ble_eq_true rfl) ?_
  show mW _ _ _ _ _ [some (.inl v1), some (.inl v2), some (.inl v3)] _ _ _
  refine mw_iload_n (pc' := 1) dX12_reckon_0 rfl rfl ?_
  by_cases c1 : (v1).toInt < 2 ∨ 8 < (v1).toInt
  · replace K := K.1 c1
    refine mw_tableOut (tgt := 86) dX12_reckon_1 c1 (by decide) ?_
    refine mw_iload_n (pc' := 87) dX12_reckon_86 rfl rfl ?_
    refine mw_iload_n (pc' := 88) dX12_reckon_87 rfl rfl ?_
    have J3 : ∀ w2 : Int32, w2 = (if ¬ v2 = v3 then 0 else 1) → mW G kX12_reckon d b 96 [some (.inl v1), some (.inl v2), some (.inl v3)] ([.inl w2]) h Q := by
      intro w2 ew2
      replace K := K w2 ew2
      exact mw_iret dX12_reckon_96 rfl rfl K
    refine mw_icmp_ne (pc' := 91) (tgt := 95) dX12_reckon_88 rfl (by decide) (fun c4 => ?_) (fun c4 => ?_)
    · refine mw_iconst (pc' := 96) (v := 0) dX12_reckon_95 rfl (by decide) ?_
      exact J3 _ (by rw [if_pos c4])
    · refine mw_iconst (pc' := 92) (v := 1) dX12_reckon_91 rfl (by decide) ?_
      refine mw_goto (tgt := 96) dX12_reckon_92 (by decide) ?_
      exact J3 _ (by rw [if_neg (fun z => z c4)])
  · replace K := K.2
    have hv : v1 = 2 ∨ v1 = 3 ∨ v1 = 4 ∨ v1 = 5 ∨ v1 = 6 ∨ v1 = 7 ∨ v1 = 8 := by
      rcases (show (v1).toInt = 2 ∨ (v1).toInt = 3 ∨ (v1).toInt = 4 ∨ (v1).toInt = 5 ∨ (v1).toInt = 6 ∨ (v1).toInt = 7 ∨ (v1).toInt = 8 by omega) with z | z | z | z | z | z | z
      · exact Or.inl (m_sw (z.trans (by decide)))
      · exact Or.inr (Or.inl (m_sw (z.trans (by decide))))
      · exact Or.inr (Or.inr (Or.inl (m_sw (z.trans (by decide)))))
      · exact Or.inr (Or.inr (Or.inr (Or.inl (m_sw (z.trans (by decide))))))
      · exact Or.inr (Or.inr (Or.inr (Or.inr (Or.inl (m_sw (z.trans (by decide)))))))
      · exact Or.inr (Or.inr (Or.inr (Or.inr (Or.inr (Or.inl (m_sw (z.trans (by decide))))))))
      · exact Or.inr (Or.inr (Or.inr (Or.inr (Or.inr (Or.inr (m_sw (z.trans (by decide))))))))
    rcases hv with hv | hv | hv | hv | hv | hv | hv
    · replace K := K.1 hv
      refine mw_tableIn (off := 43) (tgt := 44) dX12_reckon_1 (by rw [hv]; decide) (by rw [hv]; decide) (by rw [hv]; rfl) (by decide) ?_
      refine mw_iload_n (pc' := 45) dX12_reckon_44 rfl rfl ?_
      refine mw_iload_n (pc' := 46) dX12_reckon_45 rfl rfl ?_
      refine mw_iadd (pc' := 47) dX12_reckon_46 rfl ?_
      exact mw_iret dX12_reckon_47 rfl rfl K
    · replace K := K.2.1 hv
      refine mw_tableIn (off := 47) (tgt := 48) dX12_reckon_1 (by rw [hv]; decide) (by rw [hv]; decide) (by rw [hv]; rfl) (by decide) ?_
      refine mw_iload_n (pc' := 49) dX12_reckon_48 rfl rfl ?_
      refine mw_iload_n (pc' := 50) dX12_reckon_49 rfl rfl ?_
      refine mw_isub (pc' := 51) dX12_reckon_50 rfl ?_
      exact mw_iret dX12_reckon_51 rfl rfl K
    · replace K := K.2.2.1 hv
      refine mw_tableIn (off := 51) (tgt := 52) dX12_reckon_1 (by rw [hv]; decide) (by rw [hv]; decide) (by rw [hv]; rfl) (by decide) ?_
      refine mw_iload_n (pc' := 53) dX12_reckon_52 rfl rfl ?_
      refine mw_iload_n (pc' := 54) dX12_reckon_53 rfl rfl ?_
      refine mw_imul (pc' := 55) dX12_reckon_54 rfl ?_
      exact mw_iret dX12_reckon_55 rfl rfl K
    · replace K := K.2.2.2.1 hv
      refine mw_tableIn (off := 55) (tgt := 56) dX12_reckon_1 (by rw [hv]; decide) (by rw [hv]; decide) (by rw [hv]; rfl) (by decide) ?_
      refine mw_iload_n (pc' := 57) dX12_reckon_56 rfl rfl ?_
      refine mw_iload_n (pc' := 58) dX12_reckon_57 rfl rfl ?_
      obtain ⟨o5, K⟩ := K
      refine mw_idiv (pc' := 59) dX12_reckon_58 rfl o5 ?_
      exact mw_iret dX12_reckon_59 rfl rfl K
    · replace K := K.2.2.2.2.1 hv
      refine mw_tableIn (off := 59) (tgt := 60) dX12_reckon_1 (by rw [hv]; decide) (by rw [hv]; decide) (by rw [hv]; rfl) (by decide) ?_
      refine mw_iload_n (pc' := 61) dX12_reckon_60 rfl rfl ?_
      refine mw_iload_n (pc' := 62) dX12_reckon_61 rfl rfl ?_
      obtain ⟨o6, K⟩ := K
      refine mw_iremM (pc' := 63) dX12_reckon_62 rfl o6 ?_
      exact mw_iret dX12_reckon_63 rfl rfl K
    · replace K := K.2.2.2.2.2.1 hv
      refine mw_tableIn (off := 63) (tgt := 64) dX12_reckon_1 (by rw [hv]; decide) (by rw [hv]; decide) (by rw [hv]; rfl) (by decide) ?_
      refine mw_iload_n (pc' := 65) dX12_reckon_64 rfl rfl ?_
      refine mw_iload_n (pc' := 66) dX12_reckon_65 rfl rfl ?_
      have J8 : ∀ w7 : Int32, w7 = (if v3 ≤ v2 then 0 else 1) → mW G kX12_reckon d b 74 [some (.inl v1), some (.inl v2), some (.inl v3)] ([.inl w7]) h Q := by
        intro w7 ew7
        replace K := K w7 ew7
        exact mw_iret dX12_reckon_74 rfl rfl K
      refine mw_icmp_ge (pc' := 69) (tgt := 73) dX12_reckon_66 rfl (by decide) (fun c9 => ?_) (fun c9 => ?_)
      · refine mw_iconst (pc' := 74) (v := 0) dX12_reckon_73 rfl (by decide) ?_
        exact J8 _ (by rw [if_pos c9])
      · refine mw_iconst (pc' := 70) (v := 1) dX12_reckon_69 rfl (by decide) ?_
        refine mw_goto (tgt := 74) dX12_reckon_70 (by decide) ?_
        exact J8 _ (by rw [if_neg c9])
    · replace K := K.2.2.2.2.2.2 hv
      refine mw_tableIn (off := 74) (tgt := 75) dX12_reckon_1 (by rw [hv]; decide) (by rw [hv]; decide) (by rw [hv]; rfl) (by decide) ?_
      refine mw_iload_n (pc' := 76) dX12_reckon_75 rfl rfl ?_
      refine mw_iload_n (pc' := 77) dX12_reckon_76 rfl rfl ?_
      have J11 : ∀ w10 : Int32, w10 = (if v2 ≤ v3 then 0 else 1) → mW G kX12_reckon d b 85 [some (.inl v1), some (.inl v2), some (.inl v3)] ([.inl w10]) h Q := by
        intro w10 ew10
        replace K := K w10 ew10
        exact mw_iret dX12_reckon_85 rfl rfl K
      refine mw_icmp_le (pc' := 80) (tgt := 84) dX12_reckon_77 rfl (by decide) (fun c12 => ?_) (fun c12 => ?_)
      · refine mw_iconst (pc' := 85) (v := 0) dX12_reckon_84 rfl (by decide) ?_
        exact J11 _ (by rw [if_pos c12])
      · refine mw_iconst (pc' := 81) (v := 1) dX12_reckon_80 rfl (by decide) ?_
        refine mw_goto (tgt := 85) dX12_reckon_81 (by decide) ?_
        exact J11 _ (by rw [if_neg c12])

set_option maxRecDepth 100000 in
set_option maxHeartbeats 4000000 in
theorem qX12_comesTo {G : mG} {d : Nat} {b : Nat × Nat} {h : mH} {Q : Option mV → mH → Prop} (v1 : Int32) (v2 : Int32) (hS : mSk h)
    (K : mW G kX12_comesTo (d + 1) b 16 [some (.inr (some 47)), none, some (.inl v2), some (.inl 0), some (.inl (180 * (v1 / 180))), some (.inl v1), none, none] [] h Q) : mC G kX12_comesTo (d + 1) b [.inr (some 47), .inl v1, .inl v2] h Q := by
  refine mC_in rfl (Nat.le_of_ble_eq_true rfl) ?_
  show mW _ _ _ _ _ [some (.inr (some 47)), some (.inl v1), some (.inl v2), none, none, none, none, none] _ _ _
  refine mw_iconst (pc' := 1) (v := 0) dX12_comesTo_0 rfl (by decide) ?_
  refine mw_istore_n (pc' := 2) dX12_comesTo_1 rfl (by decide) ?_
  show mW _ _ _ _ _ [some (.inr (some 47)), some (.inl v1), some (.inl v2), some (.inl 0), none, none, none, none] _ _ _
  refine mw_sipush (pc' := 5) (v := 180) dX12_comesTo_2 rfl (by decide) ?_
  refine mw_iload_n (pc' := 6) dX12_comesTo_5 rfl rfl ?_
  refine mw_sipush (pc' := 9) (v := 180) dX12_comesTo_6 rfl (by decide) ?_
  refine mw_idiv (pc' := 10) dX12_comesTo_9 rfl (by decide) ?_
  refine mw_imul (pc' := 11) dX12_comesTo_10 rfl ?_
  refine mw_istore (pc' := 13) dX12_comesTo_11 rfl (by decide) ?_
  show mW _ _ _ _ _ [some (.inr (some 47)), some (.inl v1), some (.inl v2), some (.inl 0), some (.inl (180 * (v1 / 180))), none, none, none] _ _ _
  refine mw_iload_n (pc' := 14) dX12_comesTo_13 rfl rfl ?_
  refine mw_istore (pc' := 16) dX12_comesTo_14 rfl (by decide) ?_
  show mW _ _ _ _ _ [some (.inr (some 47)), some (.inl v1), some (.inl v2), some (.inl 0), some (.inl (180 * (v1 / 180))), some (.inl v1), none, none] _ _ _
  refine mw_weak (ls' := [some (.inr (some 47)), none, some (.inl v2), some (.inl 0), some (.inl (180 * (v1 / 180))), some (.inl v1), none, none]) ?_ ?_
  · intro i v hv; match i, hv with
    | 0, hv => exact hv
    | 1, hv => cases hv
    | 2, hv => exact hv
    | 3, hv => exact hv
    | 4, hv => exact hv
    | 5, hv => exact hv
    | 6, hv => cases hv
    | 7, hv => cases hv
    | n + 8, hv => cases hv
  exact K

set_option maxRecDepth 100000 in
set_option maxHeartbeats 4000000 in
theorem qX12_comesTo_16 {G : mG} {d : Nat} {b : Nat × Nat} {h : mH} {Q : Option mV → mH → Prop} (v2 : Int32) (v3 : Int32) (v4 : Int32) (v5 : Int32) (hS : mSk h)
    (K : ((v2 ≤ v5 → vp_in 0 180 ∧ Q (some (.inl (mI h 67 0))) h) ∧ (¬ (v2 ≤ v5) → vp_in v5 180 ∧ vp_in v5 180 ∧ ((((mI h 63 v5.toNatClampNeg) / 1048576) = 0 → ((¬ ((mI h 63 v5.toNatClampNeg) / 1048576) = 0 → vp_in (m_rem (mI h 63 v5.toNatClampNeg) 1048576) 9 ∧ vp_in v3 180 ∧ ∀ h6, h6 = mSI h 67 v3.toNatClampNeg (mI h 68 (m_rem (mI h 63 v5.toNatClampNeg) 1048576).toNatClampNeg) → mW G kX12_comesTo (d + 1) b 16 [some (.inr (some 47)), none, some (.inl v2), some (.inl (v3 + 1)), some (.inl v4), some (.inl (v5 + 1)), none, none] [] h6 Q) ∧ (((mI h 63 v5.toNatClampNeg) / 1048576) = 0 → vp_in v3 180 ∧ ∀ h8, h8 = mSI h 67 v3.toNatClampNeg (m_rem (mI h 63 v5.toNatClampNeg) 1048576) → mW G kX12_comesTo (d + 1) b 16 [some (.inr (some 47)), none, some (.inl v2), some (.inl (v3 + 1)), some (.inl v4), some (.inl (v5 + 1)), none, none] [] h8 Q))) ∧ (¬ ((mI h 63 v5.toNatClampNeg) / 1048576) = 0 → ((¬ ((mI h 63 v5.toNatClampNeg) / 1048576) = 1 → ((¬ ((mI h 63 v5.toNatClampNeg) / 1048576) = 10 → ((((mI h 63 v5.toNatClampNeg) / 1048576) = 11 → vp_in (v3 - 1) 180 ∧ ∀ w11 : Int32, w11 = (if ¬ ((mI h 63 v5.toNatClampNeg) / 1048576) = 12 then 0 else 1) → ((¬ (mI h 67 (v3 - 1).toNatClampNeg) = w11 → mW G kX12_comesTo (d + 1) b 16 [some (.inr (some 47)), none, some (.inl v2), some (.inl (v3 - 1)), some (.inl v4), some (.inl (v5 + 1)), none, none] [] h Q) ∧ ((mI h 67 (v3 - 1).toNatClampNeg) = w11 → mW G kX12_comesTo (d + 1) b 16 [some (.inr (some 47)), none, some (.inl v2), some (.inl v3), some (.inl v4), some (.inl (v4 + (m_rem (mI h 63 v5.toNatClampNeg) 1048576))), none, none] [] h Q))) ∧ (¬ ((mI h 63 v5.toNatClampNeg) / 1048576) = 11 → ((¬ ((mI h 63 v5.toNatClampNeg) / 1048576) = 12 → ((((mI h 63 v5.toNatClampNeg) / 1048576) = 5 → vp_in (v3 - 1) 180 ∧ ((¬ (mI h 67 (v3 - 1).toNatClampNeg) = 0 → vp_in ((v3 - 1) - 1) 180 ∧ vp_in (v3 - 1) 180 ∧ mC G kX12_reckon d (0, 0) [.inl ((mI h 63 v5.toNatClampNeg) / 1048576), .inl (mI h 67 ((v3 - 1) - 1).toNatClampNeg), .inl (mI h 67 (v3 - 1).toNatClampNeg)] h (fun r h18 => ∃ x19, r = some (.inl x19) ∧ mSk h18 ∧ vp_in ((v3 - 1) - 1) 180 ∧ ∀ h21, h21 = mSI h18 67 ((v3 - 1) - 1).toNatClampNeg x19 → mW G kX12_comesTo (d + 1) b 16 [some (.inr (some 47)), none, some (.inl v2), some (.inl (v3 - 1)), some (.inl v4), some (.inl (v5 + 1)), none, none] [] h21 Q)) ∧ ((mI h 67 (v3 - 1).toNatClampNeg) = 0 → Q (some (.inl 0)) h))) ∧ (¬ ((mI h 63 v5.toNatClampNeg) / 1048576) = 5 → ((¬ ((mI h 63 v5.toNatClampNeg) / 1048576) = 6 → vp_in ((v3 - 1) - 1) 180 ∧ vp_in (v3 - 1) 180 ∧ mC G kX12_reckon d (0, 0) [.inl ((mI h 63 v5.toNatClampNeg) / 1048576), .inl (mI h 67 ((v3 - 1) - 1).toNatClampNeg), .inl (mI h 67 (v3 - 1).toNatClampNeg)] h (fun r h25 => ∃ x26, r = some (.inl x26) ∧ mSk h25 ∧ vp_in ((v3 - 1) - 1) 180 ∧ ∀ h28, h28 = mSI h25 67 ((v3 - 1) - 1).toNatClampNeg x26 → mW G kX12_comesTo (d + 1) b 16 [some (.inr (some 47)), none, some (.inl v2), some (.inl (v3 - 1)), some (.inl v4), some (.inl (v5 + 1)), none, none] [] h28 Q)) ∧ (((mI h 63 v5.toNatClampNeg) / 1048576) = 6 → vp_in (v3 - 1) 180 ∧ ((¬ (mI h 67 (v3 - 1).toNatClampNeg) = 0 → vp_in ((v3 - 1) - 1) 180 ∧ vp_in (v3 - 1) 180 ∧ mC G kX12_reckon d (0, 0) [.inl ((mI h 63 v5.toNatClampNeg) / 1048576), .inl (mI h 67 ((v3 - 1) - 1).toNatClampNeg), .inl (mI h 67 (v3 - 1).toNatClampNeg)] h (fun r h32 => ∃ x33, r = some (.inl x33) ∧ mSk h32 ∧ vp_in ((v3 - 1) - 1) 180 ∧ ∀ h35, h35 = mSI h32 67 ((v3 - 1) - 1).toNatClampNeg x33 → mW G kX12_comesTo (d + 1) b 16 [some (.inr (some 47)), none, some (.inl v2), some (.inl (v3 - 1)), some (.inl v4), some (.inl (v5 + 1)), none, none] [] h35 Q)) ∧ ((mI h 67 (v3 - 1).toNatClampNeg) = 0 → Q (some (.inl 0)) h))))))) ∧ (((mI h 63 v5.toNatClampNeg) / 1048576) = 12 → vp_in (v3 - 1) 180 ∧ ∀ w40 : Int32, w40 = (if ¬ ((mI h 63 v5.toNatClampNeg) / 1048576) = 12 then 0 else 1) → ((¬ (mI h 67 (v3 - 1).toNatClampNeg) = w40 → mW G kX12_comesTo (d + 1) b 16 [some (.inr (some 47)), none, some (.inl v2), some (.inl (v3 - 1)), some (.inl v4), some (.inl (v5 + 1)), none, none] [] h Q) ∧ ((mI h 67 (v3 - 1).toNatClampNeg) = w40 → mW G kX12_comesTo (d + 1) b 16 [some (.inr (some 47)), none, some (.inl v2), some (.inl v3), some (.inl v4), some (.inl (v4 + (m_rem (mI h 63 v5.toNatClampNeg) 1048576))), none, none] [] h Q))))))) ∧ (((mI h 63 v5.toNatClampNeg) / 1048576) = 10 → vp_in (v3 - 1) 180 ∧ vp_in (v3 - 1) 180 ∧ ∀ h48, h48 = mSI h 67 (v3 - 1).toNatClampNeg (1 - (mI h 67 (v3 - 1).toNatClampNeg)) → mW G kX12_comesTo (d + 1) b 16 [some (.inr (some 47)), none, some (.inl v2), some (.inl v3), some (.inl v4), some (.inl (v5 + 1)), none, none] [] h48 Q))) ∧ (((mI h 63 v5.toNatClampNeg) / 1048576) = 1 → ((¬ ((mI h 63 v5.toNatClampNeg) / 1048576) = 0 → vp_in (m_rem (mI h 63 v5.toNatClampNeg) 1048576) 9 ∧ vp_in v3 180 ∧ ∀ h52, h52 = mSI h 67 v3.toNatClampNeg (mI h 68 (m_rem (mI h 63 v5.toNatClampNeg) 1048576).toNatClampNeg) → mW G kX12_comesTo (d + 1) b 16 [some (.inr (some 47)), none, some (.inl v2), some (.inl (v3 + 1)), some (.inl v4), some (.inl (v5 + 1)), none, none] [] h52 Q) ∧ (((mI h 63 v5.toNatClampNeg) / 1048576) = 0 → vp_in v3 180 ∧ ∀ h54, h54 = mSI h 67 v3.toNatClampNeg (m_rem (mI h 63 v5.toNatClampNeg) 1048576) → mW G kX12_comesTo (d + 1) b 16 [some (.inr (some 47)), none, some (.inl v2), some (.inl (v3 + 1)), some (.inl v4), some (.inl (v5 + 1)), none, none] [] h54 Q))))))))) : mW G kX12_comesTo (d + 1) b 16 [some (.inr (some 47)), none, some (.inl v2), some (.inl v3), some (.inl v4), some (.inl v5), none, none] [] h Q := by
  refine mw_iload (pc' := 18) dX12_comesTo_16 rfl rfl ?_
  refine mw_iload_n (pc' := 19) dX12_comesTo_18 rfl rfl ?_
  refine mw_icmp_ge (pc' := 22) (tgt := 233) dX12_comesTo_19 rfl (by decide) (fun c58 => ?_) (fun c58 => ?_)
  · replace K := K.1 c58
    refine mw_aload_n (pc' := 234) dX12_comesTo_233 rfl rfl ?_
    refine mw_getR (pc' := 237) dX12_comesTo_234 rfl flX12_69 rfl (skT_47 hS) ?_
    rw [skR_47_31 hS]
    refine mw_iconst (pc' := 238) (v := 0) dX12_comesTo_237 rfl (by decide) ?_
    obtain ⟨o1, K⟩ := K
    refine mw_ialdL (pc' := 239) dX12_comesTo_238 rfl (skT_67 hS) (skL_67 hS) o1 ?_
    exact mw_iret dX12_comesTo_239 rfl rfl K
  · replace K := K.2 c58
    refine mw_aload_n (pc' := 23) dX12_comesTo_22 rfl rfl ?_
    refine mw_getR (pc' := 26) dX12_comesTo_23 rfl flX12_57 rfl (skT_47 hS) ?_
    rw [skR_47_27 hS]
    refine mw_iload (pc' := 28) dX12_comesTo_26 rfl rfl ?_
    obtain ⟨o2, K⟩ := K
    refine mw_ialdL (pc' := 29) dX12_comesTo_28 rfl (skT_63 hS) (skL_63 hS) o2 ?_
    refine mw_ldc (pc' := 31) dX12_comesTo_29 rfl cnX12_250 ?_
    refine mw_idiv (pc' := 32) dX12_comesTo_31 rfl (by decide) ?_
    refine mw_istore (pc' := 34) dX12_comesTo_32 rfl (by decide) ?_
    show mW _ _ _ _ _ [some (.inr (some 47)), none, some (.inl v2), some (.inl v3), some (.inl v4), some (.inl v5), some (.inl ((mI h 63 v5.toNatClampNeg) / 1048576)), none] _ _ _
    refine mw_aload_n (pc' := 35) dX12_comesTo_34 rfl rfl ?_
    refine mw_getR (pc' := 38) dX12_comesTo_35 rfl flX12_57 rfl (skT_47 hS) ?_
    rw [skR_47_27 hS]
    refine mw_iload (pc' := 40) dX12_comesTo_38 rfl rfl ?_
    obtain ⟨o3, K⟩ := K
    refine mw_ialdL (pc' := 41) dX12_comesTo_40 rfl (skT_63 hS) (skL_63 hS) o3 ?_
    refine mw_ldc (pc' := 43) dX12_comesTo_41 rfl cnX12_250 ?_
    refine mw_iremM (pc' := 44) dX12_comesTo_43 rfl (by decide) ?_
    refine mw_istore (pc' := 46) dX12_comesTo_44 rfl (by decide) ?_
    show mW _ _ _ _ _ [some (.inr (some 47)), none, some (.inl v2), some (.inl v3), some (.inl v4), some (.inl v5), some (.inl ((mI h 63 v5.toNatClampNeg) / 1048576)), some (.inl (m_rem (mI h 63 v5.toNatClampNeg) 1048576))] _ _ _
    refine mw_iload (pc' := 48) dX12_comesTo_46 rfl rfl ?_
    refine mw_iconst (pc' := 49) (v := 1) dX12_comesTo_48 rfl (by decide) ?_
    refine mw_iadd (pc' := 50) dX12_comesTo_49 rfl ?_
    refine mw_istore (pc' := 52) dX12_comesTo_50 rfl (by decide) ?_
    show mW _ _ _ _ _ [some (.inr (some 47)), none, some (.inl v2), some (.inl v3), some (.inl v4), some (.inl (v5 + 1)), some (.inl ((mI h 63 v5.toNatClampNeg) / 1048576)), some (.inl (m_rem (mI h 63 v5.toNatClampNeg) 1048576))] _ _ _
    refine mw_iload (pc' := 54) dX12_comesTo_52 rfl rfl ?_
    refine mw_if_eq (pc' := 57) (tgt := 63) dX12_comesTo_54 rfl (by decide) (fun c57 => ?_) (fun c57 => ?_)
    · replace K := K.1 c57
      refine mw_aload_n (pc' := 64) dX12_comesTo_63 rfl rfl ?_
      refine mw_getR (pc' := 67) dX12_comesTo_64 rfl flX12_69 rfl (skT_47 hS) ?_
      rw [skR_47_31 hS]
      refine mw_iload_n (pc' := 68) dX12_comesTo_67 rfl rfl ?_
      refine mw_iload (pc' := 70) dX12_comesTo_68 rfl rfl ?_
      refine mw_if_ne (pc' := 73) (tgt := 78) dX12_comesTo_70 rfl (by decide) (fun c9 => ?_) (fun c9 => ?_)
      · replace K := K.1 c9
        refine mw_aload_n (pc' := 79) dX12_comesTo_78 rfl rfl ?_
        refine mw_getR (pc' := 82) dX12_comesTo_79 rfl flX12_72 rfl (skT_47 hS) ?_
        rw [skR_47_32 hS]
        refine mw_iload (pc' := 84) dX12_comesTo_82 rfl rfl ?_
        obtain ⟨o4, K⟩ := K
        refine mw_ialdL (pc' := 85) dX12_comesTo_84 rfl (skT_68 hS) (skL_68 hS) o4 ?_
        obtain ⟨o5, K⟩ := K
        refine mw_iastK (pc' := 86) dX12_comesTo_85 rfl (skT_67 hS) (skL_67 hS) o5 hS (fun h6 eh6 hS => ?_)
        replace K := K h6 eh6
        refine mw_iload_n (pc' := 87) dX12_comesTo_86 rfl rfl ?_
        refine mw_iconst (pc' := 88) (v := 1) dX12_comesTo_87 rfl (by decide) ?_
        refine mw_iadd (pc' := 89) dX12_comesTo_88 rfl ?_
        refine mw_istore_n (pc' := 90) dX12_comesTo_89 rfl (by decide) ?_
        show mW _ _ _ _ _ [some (.inr (some 47)), none, some (.inl v2), some (.inl (v3 + 1)), some (.inl v4), some (.inl (v5 + 1)), some (.inl ((mI h 63 v5.toNatClampNeg) / 1048576)), some (.inl (m_rem (mI h 63 v5.toNatClampNeg) 1048576))] _ _ _
        refine mw_goto (tgt := 230) dX12_comesTo_90 (by decide) ?_
        refine mw_goto (tgt := 16) dX12_comesTo_230 (by decide) ?_
        refine mw_weak (ls' := [some (.inr (some 47)), none, some (.inl v2), some (.inl (v3 + 1)), some (.inl v4), some (.inl (v5 + 1)), none, none]) ?_ ?_
        · intro i v hv; match i, hv with
          | 0, hv => exact hv
          | 1, hv => cases hv
          | 2, hv => exact hv
          | 3, hv => exact hv
          | 4, hv => exact hv
          | 5, hv => exact hv
          | 6, hv => cases hv
          | 7, hv => cases hv
          | n + 8, hv => cases hv
        exact K
      · replace K := K.2 c9
        refine mw_iload (pc' := 75) dX12_comesTo_73 rfl rfl ?_
        refine mw_goto (tgt := 85) dX12_comesTo_75 (by decide) ?_
        obtain ⟨o7, K⟩ := K
        refine mw_iastK (pc' := 86) dX12_comesTo_85 rfl (skT_67 hS) (skL_67 hS) o7 hS (fun h8 eh8 hS => ?_)
        replace K := K h8 eh8
        refine mw_iload_n (pc' := 87) dX12_comesTo_86 rfl rfl ?_
        refine mw_iconst (pc' := 88) (v := 1) dX12_comesTo_87 rfl (by decide) ?_
        refine mw_iadd (pc' := 89) dX12_comesTo_88 rfl ?_
        refine mw_istore_n (pc' := 90) dX12_comesTo_89 rfl (by decide) ?_
        show mW _ _ _ _ _ [some (.inr (some 47)), none, some (.inl v2), some (.inl (v3 + 1)), some (.inl v4), some (.inl (v5 + 1)), some (.inl ((mI h 63 v5.toNatClampNeg) / 1048576)), some (.inl (m_rem (mI h 63 v5.toNatClampNeg) 1048576))] _ _ _
        refine mw_goto (tgt := 230) dX12_comesTo_90 (by decide) ?_
        refine mw_goto (tgt := 16) dX12_comesTo_230 (by decide) ?_
        refine mw_weak (ls' := [some (.inr (some 47)), none, some (.inl v2), some (.inl (v3 + 1)), some (.inl v4), some (.inl (v5 + 1)), none, none]) ?_ ?_
        · intro i v hv; match i, hv with
          | 0, hv => exact hv
          | 1, hv => cases hv
          | 2, hv => exact hv
          | 3, hv => exact hv
          | 4, hv => exact hv
          | 5, hv => exact hv
          | 6, hv => cases hv
          | 7, hv => cases hv
          | n + 8, hv => cases hv
        exact K
    · replace K := K.2 c57
      refine mw_iload (pc' := 59) dX12_comesTo_57 rfl rfl ?_
      refine mw_iconst (pc' := 60) (v := 1) dX12_comesTo_59 rfl (by decide) ?_
      refine mw_icmp_ne (pc' := 63) (tgt := 93) dX12_comesTo_60 rfl (by decide) (fun c56 => ?_) (fun c56 => ?_)
      · replace K := K.1 c56
        refine mw_iload (pc' := 95) dX12_comesTo_93 rfl rfl ?_
        refine mw_bipush (pc' := 97) (v := 10) dX12_comesTo_95 rfl (by decide) ?_
        refine mw_icmp_ne (pc' := 100) (tgt := 121) dX12_comesTo_97 rfl (by decide) (fun c49 => ?_) (fun c49 => ?_)
        · replace K := K.1 c49
          refine mw_iload (pc' := 123) dX12_comesTo_121 rfl rfl ?_
          refine mw_bipush (pc' := 125) (v := 11) dX12_comesTo_123 rfl (by decide) ?_
          refine mw_icmp_eq (pc' := 128) (tgt := 135) dX12_comesTo_125 rfl (by decide) (fun c45 => ?_) (fun c45 => ?_)
          · replace K := K.1 c45
            refine mw_aload_n (pc' := 136) dX12_comesTo_135 rfl rfl ?_
            refine mw_getR (pc' := 139) dX12_comesTo_136 rfl flX12_69 rfl (skT_47 hS) ?_
            rw [skR_47_31 hS]
            refine mw_iload_n (pc' := 140) dX12_comesTo_139 rfl rfl ?_
            refine mw_iconst (pc' := 141) (v := 1) dX12_comesTo_140 rfl (by decide) ?_
            refine mw_isub (pc' := 142) dX12_comesTo_141 rfl ?_
            obtain ⟨o10, K⟩ := K
            refine mw_ialdL (pc' := 143) dX12_comesTo_142 rfl (skT_67 hS) (skL_67 hS) o10 ?_
            refine mw_iload (pc' := 145) dX12_comesTo_143 rfl rfl ?_
            refine mw_bipush (pc' := 147) (v := 12) dX12_comesTo_145 rfl (by decide) ?_
            have J13 : ∀ w11 : Int32, w11 = (if ¬ ((mI h 63 v5.toNatClampNeg) / 1048576) = 12 then 0 else 1) → mW G kX12_comesTo (d + 1) b 155 [some (.inr (some 47)), none, some (.inl v2), some (.inl v3), some (.inl v4), some (.inl (v5 + 1)), some (.inl ((mI h 63 v5.toNatClampNeg) / 1048576)), some (.inl (m_rem (mI h 63 v5.toNatClampNeg) 1048576))] ([.inl w11, .inl (mI h 67 (v3 - 1).toNatClampNeg)]) h Q := by
              intro w11 ew11
              replace K := K w11 ew11
              refine mw_icmp_ne (pc' := 158) (tgt := 168) dX12_comesTo_155 rfl (by decide) (fun c12 => ?_) (fun c12 => ?_)
              · replace K := K.1 c12
                refine mw_iload_n (pc' := 169) dX12_comesTo_168 rfl rfl ?_
                refine mw_iconst (pc' := 170) (v := 1) dX12_comesTo_169 rfl (by decide) ?_
                refine mw_isub (pc' := 171) dX12_comesTo_170 rfl ?_
                refine mw_istore_n (pc' := 172) dX12_comesTo_171 rfl (by decide) ?_
                show mW _ _ _ _ _ [some (.inr (some 47)), none, some (.inl v2), some (.inl (v3 - 1)), some (.inl v4), some (.inl (v5 + 1)), some (.inl ((mI h 63 v5.toNatClampNeg) / 1048576)), some (.inl (m_rem (mI h 63 v5.toNatClampNeg) 1048576))] _ _ _
                refine mw_goto (tgt := 230) dX12_comesTo_172 (by decide) ?_
                refine mw_goto (tgt := 16) dX12_comesTo_230 (by decide) ?_
                refine mw_weak (ls' := [some (.inr (some 47)), none, some (.inl v2), some (.inl (v3 - 1)), some (.inl v4), some (.inl (v5 + 1)), none, none]) ?_ ?_
                · intro i v hv; match i, hv with
                  | 0, hv => exact hv
                  | 1, hv => cases hv
                  | 2, hv => exact hv
                  | 3, hv => exact hv
                  | 4, hv => exact hv
                  | 5, hv => exact hv
                  | 6, hv => cases hv
                  | 7, hv => cases hv
                  | n + 8, hv => cases hv
                exact K
              · replace K := K.2 c12
                refine mw_iload (pc' := 160) dX12_comesTo_158 rfl rfl ?_
                refine mw_iload (pc' := 162) dX12_comesTo_160 rfl rfl ?_
                refine mw_iadd (pc' := 163) dX12_comesTo_162 rfl ?_
                refine mw_istore (pc' := 165) dX12_comesTo_163 rfl (by decide) ?_
                show mW _ _ _ _ _ [some (.inr (some 47)), none, some (.inl v2), some (.inl v3), some (.inl v4), some (.inl (v4 + (m_rem (mI h 63 v5.toNatClampNeg) 1048576))), some (.inl ((mI h 63 v5.toNatClampNeg) / 1048576)), some (.inl (m_rem (mI h 63 v5.toNatClampNeg) 1048576))] _ _ _
                refine mw_goto (tgt := 230) dX12_comesTo_165 (by decide) ?_
                refine mw_goto (tgt := 16) dX12_comesTo_230 (by decide) ?_
                refine mw_weak (ls' := [some (.inr (some 47)), none, some (.inl v2), some (.inl v3), some (.inl v4), some (.inl (v4 + (m_rem (mI h 63 v5.toNatClampNeg) 1048576))), none, none]) ?_ ?_
                · intro i v hv; match i, hv with
                  | 0, hv => exact hv
                  | 1, hv => cases hv
                  | 2, hv => exact hv
                  | 3, hv => exact hv
                  | 4, hv => exact hv
                  | 5, hv => exact hv
                  | 6, hv => cases hv
                  | 7, hv => cases hv
                  | n + 8, hv => cases hv
                exact K
            refine mw_icmp_ne (pc' := 150) (tgt := 154) dX12_comesTo_147 rfl (by decide) (fun c14 => ?_) (fun c14 => ?_)
            · refine mw_iconst (pc' := 155) (v := 0) dX12_comesTo_154 rfl (by decide) ?_
              exact J13 _ (by rw [if_pos c14])
            · refine mw_iconst (pc' := 151) (v := 1) dX12_comesTo_150 rfl (by decide) ?_
              refine mw_goto (tgt := 155) dX12_comesTo_151 (by decide) ?_
              exact J13 _ (by rw [if_neg (fun z => z c14)])
          · replace K := K.2 c45
            refine mw_iload (pc' := 130) dX12_comesTo_128 rfl rfl ?_
            refine mw_bipush (pc' := 132) (v := 12) dX12_comesTo_130 rfl (by decide) ?_
            refine mw_icmp_ne (pc' := 135) (tgt := 175) dX12_comesTo_132 rfl (by decide) (fun c44 => ?_) (fun c44 => ?_)
            · replace K := K.1 c44
              refine mw_iload_n (pc' := 176) dX12_comesTo_175 rfl rfl ?_
              refine mw_iconst (pc' := 177) (v := 1) dX12_comesTo_176 rfl (by decide) ?_
              refine mw_isub (pc' := 178) dX12_comesTo_177 rfl ?_
              refine mw_istore_n (pc' := 179) dX12_comesTo_178 rfl (by decide) ?_
              show mW _ _ _ _ _ [some (.inr (some 47)), none, some (.inl v2), some (.inl (v3 - 1)), some (.inl v4), some (.inl (v5 + 1)), some (.inl ((mI h 63 v5.toNatClampNeg) / 1048576)), some (.inl (m_rem (mI h 63 v5.toNatClampNeg) 1048576))] _ _ _
              refine mw_iload (pc' := 181) dX12_comesTo_179 rfl rfl ?_
              refine mw_iconst (pc' := 182) (v := 5) dX12_comesTo_181 rfl (by decide) ?_
              refine mw_icmp_eq (pc' := 185) (tgt := 192) dX12_comesTo_182 rfl (by decide) (fun c38 => ?_) (fun c38 => ?_)
              · replace K := K.1 c38
                refine mw_aload_n (pc' := 193) dX12_comesTo_192 rfl rfl ?_
                refine mw_getR (pc' := 196) dX12_comesTo_193 rfl flX12_69 rfl (skT_47 hS) ?_
                rw [skR_47_31 hS]
                refine mw_iload_n (pc' := 197) dX12_comesTo_196 rfl rfl ?_
                obtain ⟨o15, K⟩ := K
                refine mw_ialdL (pc' := 198) dX12_comesTo_197 rfl (skT_67 hS) (skL_67 hS) o15 ?_
                refine mw_if_ne (pc' := 201) (tgt := 203) dX12_comesTo_198 rfl (by decide) (fun c22 => ?_) (fun c22 => ?_)
                · replace K := K.1 c22
                  refine mw_aload_n (pc' := 204) dX12_comesTo_203 rfl rfl ?_
                  refine mw_getR (pc' := 207) dX12_comesTo_204 rfl flX12_69 rfl (skT_47 hS) ?_
                  rw [skR_47_31 hS]
                  refine mw_iload_n (pc' := 208) dX12_comesTo_207 rfl rfl ?_
                  refine mw_iconst (pc' := 209) (v := 1) dX12_comesTo_208 rfl (by decide) ?_
                  refine mw_isub (pc' := 210) dX12_comesTo_209 rfl ?_
                  refine mw_iload (pc' := 212) dX12_comesTo_210 rfl rfl ?_
                  refine mw_aload_n (pc' := 213) dX12_comesTo_212 rfl rfl ?_
                  refine mw_getR (pc' := 216) dX12_comesTo_213 rfl flX12_69 rfl (skT_47 hS) ?_
                  rw [skR_47_31 hS]
                  refine mw_iload_n (pc' := 217) dX12_comesTo_216 rfl rfl ?_
                  refine mw_iconst (pc' := 218) (v := 1) dX12_comesTo_217 rfl (by decide) ?_
                  refine mw_isub (pc' := 219) dX12_comesTo_218 rfl ?_
                  obtain ⟨o16, K⟩ := K
                  refine mw_ialdL (pc' := 220) dX12_comesTo_219 rfl (skT_67 hS) (skL_67 hS) o16 ?_
                  refine mw_aload_n (pc' := 221) dX12_comesTo_220 rfl rfl ?_
                  refine mw_getR (pc' := 224) dX12_comesTo_221 rfl flX12_69 rfl (skT_47 hS) ?_
                  rw [skR_47_31 hS]
                  refine mw_iload_n (pc' := 225) dX12_comesTo_224 rfl rfl ?_
                  obtain ⟨o17, K⟩ := K
                  refine mw_ialdL (pc' := 226) dX12_comesTo_225 rfl (skT_67 hS) (skL_67 hS) o17 ?_
                  refine mw_callS (pc' := 229) (b' := (0, 0)) (b1 := b) (av := [.inl ((mI h 63 v5.toNatClampNeg) / 1048576), .inl (mI h 67 ((v3 - 1) - 1).toNatClampNeg), .inl (mI h 67 (v3 - 1).toNatClampNeg)]) (rest := [.inl ((v3 - 1) - 1), .inr (some 67)]) dX12_comesTo_226 rfl lkX12_316 rfl rfl (Nat.le_of_ble_eq_true rfl) ⟨Nat.le_of_eq (Nat.zero_add _), Nat.le_of_eq (Nat.zero_add _)⟩ ?_
                  refine mC_mono (fun r h18 hr => ?_) K
                  obtain ⟨x19, rfl, hS, K⟩ := hr
                  show mW _ _ _ _ _ _ [.inl x19, .inl ((v3 - 1) - 1), .inr (some 67)] _ _
                  obtain ⟨o20, K⟩ := K
                  refine mw_iastK (pc' := 230) dX12_comesTo_229 rfl (skT_67 hS) (skL_67 hS) o20 hS (fun h21 eh21 hS => ?_)
                  replace K := K h21 eh21
                  refine mw_goto (tgt := 16) dX12_comesTo_230 (by decide) ?_
                  refine mw_weak (ls' := [some (.inr (some 47)), none, some (.inl v2), some (.inl (v3 - 1)), some (.inl v4), some (.inl (v5 + 1)), none, none]) ?_ ?_
                  · intro i v hv; match i, hv with
                    | 0, hv => exact hv
                    | 1, hv => cases hv
                    | 2, hv => exact hv
                    | 3, hv => exact hv
                    | 4, hv => exact hv
                    | 5, hv => exact hv
                    | 6, hv => cases hv
                    | 7, hv => cases hv
                    | n + 8, hv => cases hv
                  exact K
                · replace K := K.2 c22
                  refine mw_iconst (pc' := 202) (v := 0) dX12_comesTo_201 rfl (by decide) ?_
                  exact mw_iret dX12_comesTo_202 rfl rfl K
              · replace K := K.2 c38
                refine mw_iload (pc' := 187) dX12_comesTo_185 rfl rfl ?_
                refine mw_bipush (pc' := 189) (v := 6) dX12_comesTo_187 rfl (by decide) ?_
                refine mw_icmp_ne (pc' := 192) (tgt := 203) dX12_comesTo_189 rfl (by decide) (fun c37 => ?_) (fun c37 => ?_)
                · replace K := K.1 c37
                  refine mw_aload_n (pc' := 204) dX12_comesTo_203 rfl rfl ?_
                  refine mw_getR (pc' := 207) dX12_comesTo_204 rfl flX12_69 rfl (skT_47 hS) ?_
                  rw [skR_47_31 hS]
                  refine mw_iload_n (pc' := 208) dX12_comesTo_207 rfl rfl ?_
                  refine mw_iconst (pc' := 209) (v := 1) dX12_comesTo_208 rfl (by decide) ?_
                  refine mw_isub (pc' := 210) dX12_comesTo_209 rfl ?_
                  refine mw_iload (pc' := 212) dX12_comesTo_210 rfl rfl ?_
                  refine mw_aload_n (pc' := 213) dX12_comesTo_212 rfl rfl ?_
                  refine mw_getR (pc' := 216) dX12_comesTo_213 rfl flX12_69 rfl (skT_47 hS) ?_
                  rw [skR_47_31 hS]
                  refine mw_iload_n (pc' := 217) dX12_comesTo_216 rfl rfl ?_
                  refine mw_iconst (pc' := 218) (v := 1) dX12_comesTo_217 rfl (by decide) ?_
                  refine mw_isub (pc' := 219) dX12_comesTo_218 rfl ?_
                  obtain ⟨o23, K⟩ := K
                  refine mw_ialdL (pc' := 220) dX12_comesTo_219 rfl (skT_67 hS) (skL_67 hS) o23 ?_
                  refine mw_aload_n (pc' := 221) dX12_comesTo_220 rfl rfl ?_
                  refine mw_getR (pc' := 224) dX12_comesTo_221 rfl flX12_69 rfl (skT_47 hS) ?_
                  rw [skR_47_31 hS]
                  refine mw_iload_n (pc' := 225) dX12_comesTo_224 rfl rfl ?_
                  obtain ⟨o24, K⟩ := K
                  refine mw_ialdL (pc' := 226) dX12_comesTo_225 rfl (skT_67 hS) (skL_67 hS) o24 ?_
                  refine mw_callS (pc' := 229) (b' := (0, 0)) (b1 := b) (av := [.inl ((mI h 63 v5.toNatClampNeg) / 1048576), .inl (mI h 67 ((v3 - 1) - 1).toNatClampNeg), .inl (mI h 67 (v3 - 1).toNatClampNeg)]) (rest := [.inl ((v3 - 1) - 1), .inr (some 67)]) dX12_comesTo_226 rfl lkX12_316 rfl rfl (Nat.le_of_ble_eq_true rfl) ⟨Nat.le_of_eq (Nat.zero_add _), Nat.le_of_eq (Nat.zero_add _)⟩ ?_
                  refine mC_mono (fun r h25 hr => ?_) K
                  obtain ⟨x26, rfl, hS, K⟩ := hr
                  show mW _ _ _ _ _ _ [.inl x26, .inl ((v3 - 1) - 1), .inr (some 67)] _ _
                  obtain ⟨o27, K⟩ := K
                  refine mw_iastK (pc' := 230) dX12_comesTo_229 rfl (skT_67 hS) (skL_67 hS) o27 hS (fun h28 eh28 hS => ?_)
                  replace K := K h28 eh28
                  refine mw_goto (tgt := 16) dX12_comesTo_230 (by decide) ?_
                  refine mw_weak (ls' := [some (.inr (some 47)), none, some (.inl v2), some (.inl (v3 - 1)), some (.inl v4), some (.inl (v5 + 1)), none, none]) ?_ ?_
                  · intro i v hv; match i, hv with
                    | 0, hv => exact hv
                    | 1, hv => cases hv
                    | 2, hv => exact hv
                    | 3, hv => exact hv
                    | 4, hv => exact hv
                    | 5, hv => exact hv
                    | 6, hv => cases hv
                    | 7, hv => cases hv
                    | n + 8, hv => cases hv
                  exact K
                · replace K := K.2 c37
                  refine mw_aload_n (pc' := 193) dX12_comesTo_192 rfl rfl ?_
                  refine mw_getR (pc' := 196) dX12_comesTo_193 rfl flX12_69 rfl (skT_47 hS) ?_
                  rw [skR_47_31 hS]
                  refine mw_iload_n (pc' := 197) dX12_comesTo_196 rfl rfl ?_
                  obtain ⟨o29, K⟩ := K
                  refine mw_ialdL (pc' := 198) dX12_comesTo_197 rfl (skT_67 hS) (skL_67 hS) o29 ?_
                  refine mw_if_ne (pc' := 201) (tgt := 203) dX12_comesTo_198 rfl (by decide) (fun c36 => ?_) (fun c36 => ?_)
                  · replace K := K.1 c36
                    refine mw_aload_n (pc' := 204) dX12_comesTo_203 rfl rfl ?_
                    refine mw_getR (pc' := 207) dX12_comesTo_204 rfl flX12_69 rfl (skT_47 hS) ?_
                    rw [skR_47_31 hS]
                    refine mw_iload_n (pc' := 208) dX12_comesTo_207 rfl rfl ?_
                    refine mw_iconst (pc' := 209) (v := 1) dX12_comesTo_208 rfl (by decide) ?_
                    refine mw_isub (pc' := 210) dX12_comesTo_209 rfl ?_
                    refine mw_iload (pc' := 212) dX12_comesTo_210 rfl rfl ?_
                    refine mw_aload_n (pc' := 213) dX12_comesTo_212 rfl rfl ?_
                    refine mw_getR (pc' := 216) dX12_comesTo_213 rfl flX12_69 rfl (skT_47 hS) ?_
                    rw [skR_47_31 hS]
                    refine mw_iload_n (pc' := 217) dX12_comesTo_216 rfl rfl ?_
                    refine mw_iconst (pc' := 218) (v := 1) dX12_comesTo_217 rfl (by decide) ?_
                    refine mw_isub (pc' := 219) dX12_comesTo_218 rfl ?_
                    obtain ⟨o30, K⟩ := K
                    refine mw_ialdL (pc' := 220) dX12_comesTo_219 rfl (skT_67 hS) (skL_67 hS) o30 ?_
                    refine mw_aload_n (pc' := 221) dX12_comesTo_220 rfl rfl ?_
                    refine mw_getR (pc' := 224) dX12_comesTo_221 rfl flX12_69 rfl (skT_47 hS) ?_
                    rw [skR_47_31 hS]
                    refine mw_iload_n (pc' := 225) dX12_comesTo_224 rfl rfl ?_
                    obtain ⟨o31, K⟩ := K
                    refine mw_ialdL (pc' := 226) dX12_comesTo_225 rfl (skT_67 hS) (skL_67 hS) o31 ?_
                    refine mw_callS (pc' := 229) (b' := (0, 0)) (b1 := b) (av := [.inl ((mI h 63 v5.toNatClampNeg) / 1048576), .inl (mI h 67 ((v3 - 1) - 1).toNatClampNeg), .inl (mI h 67 (v3 - 1).toNatClampNeg)]) (rest := [.inl ((v3 - 1) - 1), .inr (some 67)]) dX12_comesTo_226 rfl lkX12_316 rfl rfl (Nat.le_of_ble_eq_true rfl) ⟨Nat.le_of_eq (Nat.zero_add _), Nat.le_of_eq (Nat.zero_add _)⟩ ?_
                    refine mC_mono (fun r h32 hr => ?_) K
                    obtain ⟨x33, rfl, hS, K⟩ := hr
                    show mW _ _ _ _ _ _ [.inl x33, .inl ((v3 - 1) - 1), .inr (some 67)] _ _
                    obtain ⟨o34, K⟩ := K
                    refine mw_iastK (pc' := 230) dX12_comesTo_229 rfl (skT_67 hS) (skL_67 hS) o34 hS (fun h35 eh35 hS => ?_)
                    replace K := K h35 eh35
                    refine mw_goto (tgt := 16) dX12_comesTo_230 (by decide) ?_
                    refine mw_weak (ls' := [some (.inr (some 47)), none, some (.inl v2), some (.inl (v3 - 1)), some (.inl v4), some (.inl (v5 + 1)), none, none]) ?_ ?_
                    · intro i v hv; match i, hv with
                      | 0, hv => exact hv
                      | 1, hv => cases hv
                      | 2, hv => exact hv
                      | 3, hv => exact hv
                      | 4, hv => exact hv
                      | 5, hv => exact hv
                      | 6, hv => cases hv
                      | 7, hv => cases hv
                      | n + 8, hv => cases hv
                    exact K
                  · replace K := K.2 c36
                    refine mw_iconst (pc' := 202) (v := 0) dX12_comesTo_201 rfl (by decide) ?_
                    exact mw_iret dX12_comesTo_202 rfl rfl K
            · replace K := K.2 c44
              refine mw_aload_n (pc' := 136) dX12_comesTo_135 rfl rfl ?_
              refine mw_getR (pc' := 139) dX12_comesTo_136 rfl flX12_69 rfl (skT_47 hS) ?_
              rw [skR_47_31 hS]
              refine mw_iload_n (pc' := 140) dX12_comesTo_139 rfl rfl ?_
              refine mw_iconst (pc' := 141) (v := 1) dX12_comesTo_140 rfl (by decide) ?_
              refine mw_isub (pc' := 142) dX12_comesTo_141 rfl ?_
              obtain ⟨o39, K⟩ := K
              refine mw_ialdL (pc' := 143) dX12_comesTo_142 rfl (skT_67 hS) (skL_67 hS) o39 ?_
              refine mw_iload (pc' := 145) dX12_comesTo_143 rfl rfl ?_
              refine mw_bipush (pc' := 147) (v := 12) dX12_comesTo_145 rfl (by decide) ?_
              have J42 : ∀ w40 : Int32, w40 = (if ¬ ((mI h 63 v5.toNatClampNeg) / 1048576) = 12 then 0 else 1) → mW G kX12_comesTo (d + 1) b 155 [some (.inr (some 47)), none, some (.inl v2), some (.inl v3), some (.inl v4), some (.inl (v5 + 1)), some (.inl ((mI h 63 v5.toNatClampNeg) / 1048576)), some (.inl (m_rem (mI h 63 v5.toNatClampNeg) 1048576))] ([.inl w40, .inl (mI h 67 (v3 - 1).toNatClampNeg)]) h Q := by
                intro w40 ew40
                replace K := K w40 ew40
                refine mw_icmp_ne (pc' := 158) (tgt := 168) dX12_comesTo_155 rfl (by decide) (fun c41 => ?_) (fun c41 => ?_)
                · replace K := K.1 c41
                  refine mw_iload_n (pc' := 169) dX12_comesTo_168 rfl rfl ?_
                  refine mw_iconst (pc' := 170) (v := 1) dX12_comesTo_169 rfl (by decide) ?_
                  refine mw_isub (pc' := 171) dX12_comesTo_170 rfl ?_
                  refine mw_istore_n (pc' := 172) dX12_comesTo_171 rfl (by decide) ?_
                  show mW _ _ _ _ _ [some (.inr (some 47)), none, some (.inl v2), some (.inl (v3 - 1)), some (.inl v4), some (.inl (v5 + 1)), some (.inl ((mI h 63 v5.toNatClampNeg) / 1048576)), some (.inl (m_rem (mI h 63 v5.toNatClampNeg) 1048576))] _ _ _
                  refine mw_goto (tgt := 230) dX12_comesTo_172 (by decide) ?_
                  refine mw_goto (tgt := 16) dX12_comesTo_230 (by decide) ?_
                  refine mw_weak (ls' := [some (.inr (some 47)), none, some (.inl v2), some (.inl (v3 - 1)), some (.inl v4), some (.inl (v5 + 1)), none, none]) ?_ ?_
                  · intro i v hv; match i, hv with
                    | 0, hv => exact hv
                    | 1, hv => cases hv
                    | 2, hv => exact hv
                    | 3, hv => exact hv
                    | 4, hv => exact hv
                    | 5, hv => exact hv
                    | 6, hv => cases hv
                    | 7, hv => cases hv
                    | n + 8, hv => cases hv
                  exact K
                · replace K := K.2 c41
                  refine mw_iload (pc' := 160) dX12_comesTo_158 rfl rfl ?_
                  refine mw_iload (pc' := 162) dX12_comesTo_160 rfl rfl ?_
                  refine mw_iadd (pc' := 163) dX12_comesTo_162 rfl ?_
                  refine mw_istore (pc' := 165) dX12_comesTo_163 rfl (by decide) ?_
                  show mW _ _ _ _ _ [some (.inr (some 47)), none, some (.inl v2), some (.inl v3), some (.inl v4), some (.inl (v4 + (m_rem (mI h 63 v5.toNatClampNeg) 1048576))), some (.inl ((mI h 63 v5.toNatClampNeg) / 1048576)), some (.inl (m_rem (mI h 63 v5.toNatClampNeg) 1048576))] _ _ _
                  refine mw_goto (tgt := 230) dX12_comesTo_165 (by decide) ?_
                  refine mw_goto (tgt := 16) dX12_comesTo_230 (by decide) ?_
                  refine mw_weak (ls' := [some (.inr (some 47)), none, some (.inl v2), some (.inl v3), some (.inl v4), some (.inl (v4 + (m_rem (mI h 63 v5.toNatClampNeg) 1048576))), none, none]) ?_ ?_
                  · intro i v hv; match i, hv with
                    | 0, hv => exact hv
                    | 1, hv => cases hv
                    | 2, hv => exact hv
                    | 3, hv => exact hv
                    | 4, hv => exact hv
                    | 5, hv => exact hv
                    | 6, hv => cases hv
                    | 7, hv => cases hv
                    | n + 8, hv => cases hv
                  exact K
              refine mw_icmp_ne (pc' := 150) (tgt := 154) dX12_comesTo_147 rfl (by decide) (fun c43 => ?_) (fun c43 => ?_)
              · refine mw_iconst (pc' := 155) (v := 0) dX12_comesTo_154 rfl (by decide) ?_
                exact J42 _ (by rw [if_pos c43])
              · refine mw_iconst (pc' := 151) (v := 1) dX12_comesTo_150 rfl (by decide) ?_
                refine mw_goto (tgt := 155) dX12_comesTo_151 (by decide) ?_
                exact J42 _ (by rw [if_neg (fun z => z c43)])
        · replace K := K.2 c49
          refine mw_aload_n (pc' := 101) dX12_comesTo_100 rfl rfl ?_
          refine mw_getR (pc' := 104) dX12_comesTo_101 rfl flX12_69 rfl (skT_47 hS) ?_
          rw [skR_47_31 hS]
          refine mw_iload_n (pc' := 105) dX12_comesTo_104 rfl rfl ?_
          refine mw_iconst (pc' := 106) (v := 1) dX12_comesTo_105 rfl (by decide) ?_
          refine mw_isub (pc' := 107) dX12_comesTo_106 rfl ?_
          refine mw_iconst (pc' := 108) (v := 1) dX12_comesTo_107 rfl (by decide) ?_
          refine mw_aload_n (pc' := 109) dX12_comesTo_108 rfl rfl ?_
          refine mw_getR (pc' := 112) dX12_comesTo_109 rfl flX12_69 rfl (skT_47 hS) ?_
          rw [skR_47_31 hS]
          refine mw_iload_n (pc' := 113) dX12_comesTo_112 rfl rfl ?_
          refine mw_iconst (pc' := 114) (v := 1) dX12_comesTo_113 rfl (by decide) ?_
          refine mw_isub (pc' := 115) dX12_comesTo_114 rfl ?_
          obtain ⟨o46, K⟩ := K
          refine mw_ialdL (pc' := 116) dX12_comesTo_115 rfl (skT_67 hS) (skL_67 hS) o46 ?_
          refine mw_isub (pc' := 117) dX12_comesTo_116 rfl ?_
          obtain ⟨o47, K⟩ := K
          refine mw_iastK (pc' := 118) dX12_comesTo_117 rfl (skT_67 hS) (skL_67 hS) o47 hS (fun h48 eh48 hS => ?_)
          replace K := K h48 eh48
          refine mw_goto (tgt := 230) dX12_comesTo_118 (by decide) ?_
          refine mw_goto (tgt := 16) dX12_comesTo_230 (by decide) ?_
          refine mw_weak (ls' := [some (.inr (some 47)), none, some (.inl v2), some (.inl v3), some (.inl v4), some (.inl (v5 + 1)), none, none]) ?_ ?_
          · intro i v hv; match i, hv with
            | 0, hv => exact hv
            | 1, hv => cases hv
            | 2, hv => exact hv
            | 3, hv => exact hv
            | 4, hv => exact hv
            | 5, hv => exact hv
            | 6, hv => cases hv
            | 7, hv => cases hv
            | n + 8, hv => cases hv
          exact K
      · replace K := K.2 c56
        refine mw_aload_n (pc' := 64) dX12_comesTo_63 rfl rfl ?_
        refine mw_getR (pc' := 67) dX12_comesTo_64 rfl flX12_69 rfl (skT_47 hS) ?_
        rw [skR_47_31 hS]
        refine mw_iload_n (pc' := 68) dX12_comesTo_67 rfl rfl ?_
        refine mw_iload (pc' := 70) dX12_comesTo_68 rfl rfl ?_
        refine mw_if_ne (pc' := 73) (tgt := 78) dX12_comesTo_70 rfl (by decide) (fun c55 => ?_) (fun c55 => ?_)
        · replace K := K.1 c55
          refine mw_aload_n (pc' := 79) dX12_comesTo_78 rfl rfl ?_
          refine mw_getR (pc' := 82) dX12_comesTo_79 rfl flX12_72 rfl (skT_47 hS) ?_
          rw [skR_47_32 hS]
          refine mw_iload (pc' := 84) dX12_comesTo_82 rfl rfl ?_
          obtain ⟨o50, K⟩ := K
          refine mw_ialdL (pc' := 85) dX12_comesTo_84 rfl (skT_68 hS) (skL_68 hS) o50 ?_
          obtain ⟨o51, K⟩ := K
          refine mw_iastK (pc' := 86) dX12_comesTo_85 rfl (skT_67 hS) (skL_67 hS) o51 hS (fun h52 eh52 hS => ?_)
          replace K := K h52 eh52
          refine mw_iload_n (pc' := 87) dX12_comesTo_86 rfl rfl ?_
          refine mw_iconst (pc' := 88) (v := 1) dX12_comesTo_87 rfl (by decide) ?_
          refine mw_iadd (pc' := 89) dX12_comesTo_88 rfl ?_
          refine mw_istore_n (pc' := 90) dX12_comesTo_89 rfl (by decide) ?_
          show mW _ _ _ _ _ [some (.inr (some 47)), none, some (.inl v2), some (.inl (v3 + 1)), some (.inl v4), some (.inl (v5 + 1)), some (.inl ((mI h 63 v5.toNatClampNeg) / 1048576)), some (.inl (m_rem (mI h 63 v5.toNatClampNeg) 1048576))] _ _ _
          refine mw_goto (tgt := 230) dX12_comesTo_90 (by decide) ?_
          refine mw_goto (tgt := 16) dX12_comesTo_230 (by decide) ?_
          refine mw_weak (ls' := [some (.inr (some 47)), none, some (.inl v2), some (.inl (v3 + 1)), some (.inl v4), some (.inl (v5 + 1)), none, none]) ?_ ?_
          · intro i v hv; match i, hv with
            | 0, hv => exact hv
            | 1, hv => cases hv
            | 2, hv => exact hv
            | 3, hv => exact hv
            | 4, hv => exact hv
            | 5, hv => exact hv
            | 6, hv => cases hv
            | 7, hv => cases hv
            | n + 8, hv => cases hv
          exact K
        · replace K := K.2 c55
          refine mw_iload (pc' := 75) dX12_comesTo_73 rfl rfl ?_
          refine mw_goto (tgt := 85) dX12_comesTo_75 (by decide) ?_
          obtain ⟨o53, K⟩ := K
          refine mw_iastK (pc' := 86) dX12_comesTo_85 rfl (skT_67 hS) (skL_67 hS) o53 hS (fun h54 eh54 hS => ?_)
          replace K := K h54 eh54
          refine mw_iload_n (pc' := 87) dX12_comesTo_86 rfl rfl ?_
          refine mw_iconst (pc' := 88) (v := 1) dX12_comesTo_87 rfl (by decide) ?_
          refine mw_iadd (pc' := 89) dX12_comesTo_88 rfl ?_
          refine mw_istore_n (pc' := 90) dX12_comesTo_89 rfl (by decide) ?_
          show mW _ _ _ _ _ [some (.inr (some 47)), none, some (.inl v2), some (.inl (v3 + 1)), some (.inl v4), some (.inl (v5 + 1)), some (.inl ((mI h 63 v5.toNatClampNeg) / 1048576)), some (.inl (m_rem (mI h 63 v5.toNatClampNeg) 1048576))] _ _ _
          refine mw_goto (tgt := 230) dX12_comesTo_90 (by decide) ?_
          refine mw_goto (tgt := 16) dX12_comesTo_230 (by decide) ?_
          refine mw_weak (ls' := [some (.inr (some 47)), none, some (.inl v2), some (.inl (v3 + 1)), some (.inl v4), some (.inl (v5 + 1)), none, none]) ?_ ?_
          · intro i v hv; match i, hv with
            | 0, hv => exact hv
            | 1, hv => cases hv
            | 2, hv => exact hv
            | 3, hv => exact hv
            | 4, hv => exact hv
            | 5, hv => exact hv
            | 6, hv => cases hv
            | 7, hv => cases hv
            | n + 8, hv => cases hv
          exact K

set_option maxRecDepth 100000 in
set_option maxHeartbeats 4000000 in
theorem qX12_landOnWay {G : mG} {d : Nat} {b : Nat × Nat} {h : mH} {Q : Option mV → mH → Prop} (v1 : Int32) (v2 : Int32) (v3 : Int32) (v4 : Int32) (v5 : Int32) (hS : mSk h)
    (K : mW G kX12_landOnWay (d + 1) b 9 [some (.inr (some 47)), some (.inl v1), some (.inl v2), some (.inl v3), some (.inl v4), some (.inl v5), some (.inl 0), some (.inl v2), some (.inl v3)] [] h Q) : mC G kX12_landOnWay (d + 1) b [.inr (some 47), .inl v1, .inl v2, .inl v3, .inl v4, .inl v5] h Q := by
  refine mC_in rfl (Nat.le_of_ble_eq_true rfl) ?_
  show mW _ _ _ _ _ [some (.inr (some 47)), some (.inl v1), some (.inl v2), some (.inl v3), some (.inl v4), some (.inl v5), none, none, none] _ _ _
  refine mw_iconst (pc' := 1) (v := 0) dX12_landOnWay_0 rfl (by decide) ?_
  refine mw_istore (pc' := 3) dX12_landOnWay_1 rfl (by decide) ?_
  show mW _ _ _ _ _ [some (.inr (some 47)), some (.inl v1), some (.inl v2), some (.inl v3), some (.inl v4), some (.inl v5), some (.inl 0), none, none] _ _ _
  refine mw_iload_n (pc' := 4) dX12_landOnWay_3 rfl rfl ?_
  refine mw_istore (pc' := 6) dX12_landOnWay_4 rfl (by decide) ?_
  show mW _ _ _ _ _ [some (.inr (some 47)), some (.inl v1), some (.inl v2), some (.inl v3), some (.inl v4), some (.inl v5), some (.inl 0), some (.inl v2), none] _ _ _
  refine mw_iload_n (pc' := 7) dX12_landOnWay_6 rfl rfl ?_
  refine mw_istore (pc' := 9) dX12_landOnWay_7 rfl (by decide) ?_
  show mW _ _ _ _ _ [some (.inr (some 47)), some (.inl v1), some (.inl v2), some (.inl v3), some (.inl v4), some (.inl v5), some (.inl 0), some (.inl v2), some (.inl v3)] _ _ _
  exact K

set_option maxRecDepth 100000 in
set_option maxHeartbeats 4000000 in
theorem qX12_landOnWay_9 {G : mG} {d : Nat} {b : Nat × Nat} {h : mH} {Q : Option mV → mH → Prop} (v1 : Int32) (v2 : Int32) (v3 : Int32) (v4 : Int32) (v5 : Int32) (v6 : Int32) (v7 : Int32) (v8 : Int32) (hS : mSk h)
    (K : ((¬ v7 = v4 → ((¬ v7 = v2 → mC G kX12_isLandAt d (0, 0) [.inr (some 47), .inl v1, .inl v7, .inl v8] h (fun r h1 => ∃ x2, r = some (.inl x2) ∧ mSk h1 ∧ ((x2 = 0 → ((v7 = v4 → ∀ w3 : Int32, w3 = (if v5 ≤ v8 then (v8 - 1) else (v8 + 1)) → mW G kX12_landOnWay (d + 1) b 9 [some (.inr (some 47)), some (.inl v1), some (.inl v2), some (.inl v3), some (.inl v4), some (.inl v5), some (.inl v6), some (.inl v7), some (.inl w3)] [] h1 Q) ∧ (¬ v7 = v4 → ∀ w6 : Int32, w6 = (if v4 ≤ v7 then (v7 - 1) else (v7 + 1)) → mW G kX12_landOnWay (d + 1) b 9 [some (.inr (some 47)), some (.inl v1), some (.inl v2), some (.inl v3), some (.inl v4), some (.inl v5), some (.inl v6), some (.inl w6), some (.inl v8)] [] h1 Q))) ∧ (¬ x2 = 0 → ((v7 = v4 → ∀ w10 : Int32, w10 = (if v5 ≤ v8 then (v8 - 1) else (v8 + 1)) → mW G kX12_landOnWay (d + 1) b 9 [some (.inr (some 47)), some (.inl v1), some (.inl v2), some (.inl v3), some (.inl v4), some (.inl v5), some (.inl (v6 + 1)), some (.inl v7), some (.inl w10)] [] h1 Q) ∧ (¬ v7 = v4 → ∀ w13 : Int32, w13 = (if v4 ≤ v7 then (v7 - 1) else (v7 + 1)) → mW G kX12_landOnWay (d + 1) b 9 [some (.inr (some 47)), some (.inl v1), some (.inl v2), some (.inl v3), some (.inl v4), some (.inl v5), some (.inl (v6 + 1)), some (.inl w13), some (.inl v8)] [] h1 Q)))))) ∧ (v7 = v2 → ((v8 = v3 → ((v7 = v4 → ∀ w18 : Int32, w18 = (if v5 ≤ v8 then (v8 - 1) else (v8 + 1)) → mW G kX12_landOnWay (d + 1) b 9 [some (.inr (some 47)), some (.inl v1), some (.inl v2), some (.inl v3), some (.inl v4), some (.inl v5), some (.inl v6), some (.inl v7), some (.inl w18)] [] h Q) ∧ (¬ v7 = v4 → ∀ w21 : Int32, w21 = (if v4 ≤ v7 then (v7 - 1) else (v7 + 1)) → mW G kX12_landOnWay (d + 1) b 9 [some (.inr (some 47)), some (.inl v1), some (.inl v2), some (.inl v3), some (.inl v4), some (.inl v5), some (.inl v6), some (.inl w21), some (.inl v8)] [] h Q))) ∧ (¬ v8 = v3 → mC G kX12_isLandAt d (0, 0) [.inr (some 47), .inl v1, .inl v7, .inl v8] h (fun r h25 => ∃ x26, r = some (.inl x26) ∧ mSk h25 ∧ ((x26 = 0 → ((v7 = v4 → ∀ w27 : Int32, w27 = (if v5 ≤ v8 then (v8 - 1) else (v8 + 1)) → mW G kX12_landOnWay (d + 1) b 9 [some (.inr (some 47)), some (.inl v1), some (.inl v2), some (.inl v3), some (.inl v4), some (.inl v5), some (.inl v6), some (.inl v7), some (.inl w27)] [] h25 Q) ∧ (¬ v7 = v4 → ∀ w30 : Int32, w30 = (if v4 ≤ v7 then (v7 - 1) else (v7 + 1)) → mW G kX12_landOnWay (d + 1) b 9 [some (.inr (some 47)), some (.inl v1), some (.inl v2), some (.inl v3), some (.inl v4), some (.inl v5), some (.inl v6), some (.inl w30), some (.inl v8)] [] h25 Q))) ∧ (¬ x26 = 0 → ((v7 = v4 → ∀ w34 : Int32, w34 = (if v5 ≤ v8 then (v8 - 1) else (v8 + 1)) → mW G kX12_landOnWay (d + 1) b 9 [some (.inr (some 47)), some (.inl v1), some (.inl v2), some (.inl v3), some (.inl v4), some (.inl v5), some (.inl (v6 + 1)), some (.inl v7), some (.inl w34)] [] h25 Q) ∧ (¬ v7 = v4 → ∀ w37 : Int32, w37 = (if v4 ≤ v7 then (v7 - 1) else (v7 + 1)) → mW G kX12_landOnWay (d + 1) b 9 [some (.inr (some 47)), some (.inl v1), some (.inl v2), some (.inl v3), some (.inl v4), some (.inl v5), some (.inl (v6 + 1)), some (.inl w37), some (.inl v8)] [] h25 Q)))))))))) ∧ (v7 = v4 → ((v8 = v5 → Q (some (.inl v6)) h) ∧ (¬ v8 = v5 → ((¬ v7 = v2 → mC G kX12_isLandAt d (0, 0) [.inr (some 47), .inl v1, .inl v7, .inl v8] h (fun r h44 => ∃ x45, r = some (.inl x45) ∧ mSk h44 ∧ ((x45 = 0 → ((v7 = v4 → ∀ w46 : Int32, w46 = (if v5 ≤ v8 then (v8 - 1) else (v8 + 1)) → mW G kX12_landOnWay (d + 1) b 9 [some (.inr (some 47)), some (.inl v1), some (.inl v2), some (.inl v3), some (.inl v4), some (.inl v5), some (.inl v6), some (.inl v7), some (.inl w46)] [] h44 Q) ∧ (¬ v7 = v4 → ∀ w49 : Int32, w49 = (if v4 ≤ v7 then (v7 - 1) else (v7 + 1)) → mW G kX12_landOnWay (d + 1) b 9 [some (.inr (some 47)), some (.inl v1), some (.inl v2), some (.inl v3), some (.inl v4), some (.inl v5), some (.inl v6), some (.inl w49), some (.inl v8)] [] h44 Q))) ∧ (¬ x45 = 0 → ((v7 = v4 → ∀ w53 : Int32, w53 = (if v5 ≤ v8 then (v8 - 1) else (v8 + 1)) → mW G kX12_landOnWay (d + 1) b 9 [some (.inr (some 47)), some (.inl v1), some (.inl v2), some (.inl v3), some (.inl v4), some (.inl v5), some (.inl (v6 + 1)), some (.inl v7), some (.inl w53)] [] h44 Q) ∧ (¬ v7 = v4 → ∀ w56 : Int32, w56 = (if v4 ≤ v7 then (v7 - 1) else (v7 + 1)) → mW G kX12_landOnWay (d + 1) b 9 [some (.inr (some 47)), some (.inl v1), some (.inl v2), some (.inl v3), some (.inl v4), some (.inl v5), some (.inl (v6 + 1)), some (.inl w56), some (.inl v8)] [] h44 Q)))))) ∧ (v7 = v2 → ((v8 = v3 → ((v7 = v4 → ∀ w61 : Int32, w61 = (if v5 ≤ v8 then (v8 - 1) else (v8 + 1)) → mW G kX12_landOnWay (d + 1) b 9 [some (.inr (some 47)), some (.inl v1), some (.inl v2), some (.inl v3), some (.inl v4), some (.inl v5), some (.inl v6), some (.inl v7), some (.inl w61)] [] h Q) ∧ (¬ v7 = v4 → ∀ w64 : Int32, w64 = (if v4 ≤ v7 then (v7 - 1) else (v7 + 1)) → mW G kX12_landOnWay (d + 1) b 9 [some (.inr (some 47)), some (.inl v1), some (.inl v2), some (.inl v3), some (.inl v4), some (.inl v5), some (.inl v6), some (.inl w64), some (.inl v8)] [] h Q))) ∧ (¬ v8 = v3 → mC G kX12_isLandAt d (0, 0) [.inr (some 47), .inl v1, .inl v7, .inl v8] h (fun r h68 => ∃ x69, r = some (.inl x69) ∧ mSk h68 ∧ ((x69 = 0 → ((v7 = v4 → ∀ w70 : Int32, w70 = (if v5 ≤ v8 then (v8 - 1) else (v8 + 1)) → mW G kX12_landOnWay (d + 1) b 9 [some (.inr (some 47)), some (.inl v1), some (.inl v2), some (.inl v3), some (.inl v4), some (.inl v5), some (.inl v6), some (.inl v7), some (.inl w70)] [] h68 Q) ∧ (¬ v7 = v4 → ∀ w73 : Int32, w73 = (if v4 ≤ v7 then (v7 - 1) else (v7 + 1)) → mW G kX12_landOnWay (d + 1) b 9 [some (.inr (some 47)), some (.inl v1), some (.inl v2), some (.inl v3), some (.inl v4), some (.inl v5), some (.inl v6), some (.inl w73), some (.inl v8)] [] h68 Q))) ∧ (¬ x69 = 0 → ((v7 = v4 → ∀ w77 : Int32, w77 = (if v5 ≤ v8 then (v8 - 1) else (v8 + 1)) → mW G kX12_landOnWay (d + 1) b 9 [some (.inr (some 47)), some (.inl v1), some (.inl v2), some (.inl v3), some (.inl v4), some (.inl v5), some (.inl (v6 + 1)), some (.inl v7), some (.inl w77)] [] h68 Q) ∧ (¬ v7 = v4 → ∀ w80 : Int32, w80 = (if v4 ≤ v7 then (v7 - 1) else (v7 + 1)) → mW G kX12_landOnWay (d + 1) b 9 [some (.inr (some 47)), some (.inl v1), some (.inl v2), some (.inl v3), some (.inl v4), some (.inl v5), some (.inl (v6 + 1)), some (.inl w80), some (.inl v8)] [] h68 Q)))))))))))))) : mW G kX12_landOnWay (d + 1) b 9 [some (.inr (some 47)), some (.inl v1), some (.inl v2), some (.inl v3), some (.inl v4), some (.inl v5), some (.inl v6), some (.inl v7), some (.inl v8)] [] h Q := by
  refine mw_iload (pc' := 11) dX12_landOnWay_9 rfl rfl ?_
  refine mw_iload (pc' := 13) dX12_landOnWay_11 rfl rfl ?_
  refine mw_icmp_ne (pc' := 16) (tgt := 23) dX12_landOnWay_13 rfl (by decide) (fun c88 => ?_) (fun c88 => ?_)
  · replace K := K.1 c88
    refine mw_iload (pc' := 25) dX12_landOnWay_23 rfl rfl ?_
    refine mw_iload_n (pc' := 26) dX12_landOnWay_25 rfl rfl ?_
    refine mw_icmp_ne (pc' := 29) (tgt := 35) dX12_landOnWay_26 rfl (by decide) (fun c43 => ?_) (fun c43 => ?_)
    · replace K := K.1 c43
      refine mw_aload_n (pc' := 36) dX12_landOnWay_35 rfl rfl ?_
      refine mw_iload_n (pc' := 37) dX12_landOnWay_36 rfl rfl ?_
      refine mw_iload (pc' := 39) dX12_landOnWay_37 rfl rfl ?_
      refine mw_iload (pc' := 41) dX12_landOnWay_39 rfl rfl ?_
      refine mw_callV (pc' := 44) (b' := (0, 0)) (b1 := b) (av := [.inl v1, .inl v7, .inl v8]) (rest := []) dX12_landOnWay_41 rfl lkX12_193 rfl rfl (Nat.le_of_ble_eq_true rfl) ⟨Nat.le_of_eq (Nat.zero_add _), Nat.le_of_eq (Nat.zero_add _)⟩ (skT_47 hS) ?_
      refine mC_mono (fun r h1 hr => ?_) K
      obtain ⟨x2, rfl, hS, K⟩ := hr
      show mW _ _ _ _ _ _ [.inl x2] _ _
      refine mw_if_eq (pc' := 47) (tgt := 53) dX12_landOnWay_44 rfl (by decide) (fun c17 => ?_) (fun c17 => ?_)
      · replace K := K.1 c17
        refine mw_iload (pc' := 55) dX12_landOnWay_53 rfl rfl ?_
        refine mw_iload (pc' := 57) dX12_landOnWay_55 rfl rfl ?_
        refine mw_icmp_eq (pc' := 60) (tgt := 83) dX12_landOnWay_57 rfl (by decide) (fun c9 => ?_) (fun c9 => ?_)
        · replace K := K.1 c9
          refine mw_iload (pc' := 85) dX12_landOnWay_83 rfl rfl ?_
          refine mw_iload (pc' := 87) dX12_landOnWay_85 rfl rfl ?_
          have J4 : ∀ w3 : Int32, w3 = (if v5 ≤ v8 then (v8 - 1) else (v8 + 1)) → mW G kX12_landOnWay (d + 1) b 101 [some (.inr (some 47)), some (.inl v1), some (.inl v2), some (.inl v3), some (.inl v4), some (.inl v5), some (.inl v6), some (.inl v7), some (.inl v8)] ([.inl w3]) h1 Q := by
            intro w3 ew3
            replace K := K w3 ew3
            refine mw_istore (pc' := 103) dX12_landOnWay_101 rfl (by decide) ?_
            show mW _ _ _ _ _ [some (.inr (some 47)), some (.inl v1), some (.inl v2), some (.inl v3), some (.inl v4), some (.inl v5), some (.inl v6), some (.inl v7), some (.inl w3)] _ _ _
            refine mw_goto (tgt := 9) dX12_landOnWay_103 (by decide) ?_
            exact K
          refine mw_icmp_ge (pc' := 90) (tgt := 97) dX12_landOnWay_87 rfl (by decide) (fun c5 => ?_) (fun c5 => ?_)
          · refine mw_iload (pc' := 99) dX12_landOnWay_97 rfl rfl ?_
            refine mw_iconst (pc' := 100) (v := 1) dX12_landOnWay_99 rfl (by decide) ?_
            refine mw_isub (pc' := 101) dX12_landOnWay_100 rfl ?_
            exact J4 _ (by rw [if_pos c5])
          · refine mw_iload (pc' := 92) dX12_landOnWay_90 rfl rfl ?_
            refine mw_iconst (pc' := 93) (v := 1) dX12_landOnWay_92 rfl (by decide) ?_
            refine mw_iadd (pc' := 94) dX12_landOnWay_93 rfl ?_
            refine mw_goto (tgt := 101) dX12_landOnWay_94 (by decide) ?_
            exact J4 _ (by rw [if_neg c5])
        · replace K := K.2 c9
          refine mw_iload (pc' := 62) dX12_landOnWay_60 rfl rfl ?_
          refine mw_iload (pc' := 64) dX12_landOnWay_62 rfl rfl ?_
          have J7 : ∀ w6 : Int32, w6 = (if v4 ≤ v7 then (v7 - 1) else (v7 + 1)) → mW G kX12_landOnWay (d + 1) b 78 [some (.inr (some 47)), some (.inl v1), some (.inl v2), some (.inl v3), some (.inl v4), some (.inl v5), some (.inl v6), some (.inl v7), some (.inl v8)] ([.inl w6]) h1 Q := by
            intro w6 ew6
            replace K := K w6 ew6
            refine mw_istore (pc' := 80) dX12_landOnWay_78 rfl (by decide) ?_
            show mW _ _ _ _ _ [some (.inr (some 47)), some (.inl v1), some (.inl v2), some (.inl v3), some (.inl v4), some (.inl v5), some (.inl v6), some (.inl w6), some (.inl v8)] _ _ _
            refine mw_goto (tgt := 9) dX12_landOnWay_80 (by decide) ?_
            exact K
          refine mw_icmp_ge (pc' := 67) (tgt := 74) dX12_landOnWay_64 rfl (by decide) (fun c8 => ?_) (fun c8 => ?_)
          · refine mw_iload (pc' := 76) dX12_landOnWay_74 rfl rfl ?_
            refine mw_iconst (pc' := 77) (v := 1) dX12_landOnWay_76 rfl (by decide) ?_
            refine mw_isub (pc' := 78) dX12_landOnWay_77 rfl ?_
            exact J7 _ (by rw [if_pos c8])
          · refine mw_iload (pc' := 69) dX12_landOnWay_67 rfl rfl ?_
            refine mw_iconst (pc' := 70) (v := 1) dX12_landOnWay_69 rfl (by decide) ?_
            refine mw_iadd (pc' := 71) dX12_landOnWay_70 rfl ?_
            refine mw_goto (tgt := 78) dX12_landOnWay_71 (by decide) ?_
            exact J7 _ (by rw [if_neg c8])
      · replace K := K.2 c17
        refine mw_iload (pc' := 49) dX12_landOnWay_47 rfl rfl ?_
        refine mw_iconst (pc' := 50) (v := 1) dX12_landOnWay_49 rfl (by decide) ?_
        refine mw_iadd (pc' := 51) dX12_landOnWay_50 rfl ?_
        refine mw_istore (pc' := 53) dX12_landOnWay_51 rfl (by decide) ?_
        show mW _ _ _ _ _ [some (.inr (some 47)), some (.inl v1), some (.inl v2), some (.inl v3), some (.inl v4), some (.inl v5), some (.inl (v6 + 1)), some (.inl v7), some (.inl v8)] _ _ _
        refine mw_iload (pc' := 55) dX12_landOnWay_53 rfl rfl ?_
        refine mw_iload (pc' := 57) dX12_landOnWay_55 rfl rfl ?_
        refine mw_icmp_eq (pc' := 60) (tgt := 83) dX12_landOnWay_57 rfl (by decide) (fun c16 => ?_) (fun c16 => ?_)
        · replace K := K.1 c16
          refine mw_iload (pc' := 85) dX12_landOnWay_83 rfl rfl ?_
          refine mw_iload (pc' := 87) dX12_landOnWay_85 rfl rfl ?_
          have J11 : ∀ w10 : Int32, w10 = (if v5 ≤ v8 then (v8 - 1) else (v8 + 1)) → mW G kX12_landOnWay (d + 1) b 101 [some (.inr (some 47)), some (.inl v1), some (.inl v2), some (.inl v3), some (.inl v4), some (.inl v5), some (.inl (v6 + 1)), some (.inl v7), some (.inl v8)] ([.inl w10]) h1 Q := by
            intro w10 ew10
            replace K := K w10 ew10
            refine mw_istore (pc' := 103) dX12_landOnWay_101 rfl (by decide) ?_
            show mW _ _ _ _ _ [some (.inr (some 47)), some (.inl v1), some (.inl v2), some (.inl v3), some (.inl v4), some (.inl v5), some (.inl (v6 + 1)), some (.inl v7), some (.inl w10)] _ _ _
            refine mw_goto (tgt := 9) dX12_landOnWay_103 (by decide) ?_
            exact K
          refine mw_icmp_ge (pc' := 90) (tgt := 97) dX12_landOnWay_87 rfl (by decide) (fun c12 => ?_) (fun c12 => ?_)
          · refine mw_iload (pc' := 99) dX12_landOnWay_97 rfl rfl ?_
            refine mw_iconst (pc' := 100) (v := 1) dX12_landOnWay_99 rfl (by decide) ?_
            refine mw_isub (pc' := 101) dX12_landOnWay_100 rfl ?_
            exact J11 _ (by rw [if_pos c12])
          · refine mw_iload (pc' := 92) dX12_landOnWay_90 rfl rfl ?_
            refine mw_iconst (pc' := 93) (v := 1) dX12_landOnWay_92 rfl (by decide) ?_
            refine mw_iadd (pc' := 94) dX12_landOnWay_93 rfl ?_
            refine mw_goto (tgt := 101) dX12_landOnWay_94 (by decide) ?_
            exact J11 _ (by rw [if_neg c12])
        · replace K := K.2 c16
          refine mw_iload (pc' := 62) dX12_landOnWay_60 rfl rfl ?_
          refine mw_iload (pc' := 64) dX12_landOnWay_62 rfl rfl ?_
          have J14 : ∀ w13 : Int32, w13 = (if v4 ≤ v7 then (v7 - 1) else (v7 + 1)) → mW G kX12_landOnWay (d + 1) b 78 [some (.inr (some 47)), some (.inl v1), some (.inl v2), some (.inl v3), some (.inl v4), some (.inl v5), some (.inl (v6 + 1)), some (.inl v7), some (.inl v8)] ([.inl w13]) h1 Q := by
            intro w13 ew13
            replace K := K w13 ew13
            refine mw_istore (pc' := 80) dX12_landOnWay_78 rfl (by decide) ?_
            show mW _ _ _ _ _ [some (.inr (some 47)), some (.inl v1), some (.inl v2), some (.inl v3), some (.inl v4), some (.inl v5), some (.inl (v6 + 1)), some (.inl w13), some (.inl v8)] _ _ _
            refine mw_goto (tgt := 9) dX12_landOnWay_80 (by decide) ?_
            exact K
          refine mw_icmp_ge (pc' := 67) (tgt := 74) dX12_landOnWay_64 rfl (by decide) (fun c15 => ?_) (fun c15 => ?_)
          · refine mw_iload (pc' := 76) dX12_landOnWay_74 rfl rfl ?_
            refine mw_iconst (pc' := 77) (v := 1) dX12_landOnWay_76 rfl (by decide) ?_
            refine mw_isub (pc' := 78) dX12_landOnWay_77 rfl ?_
            exact J14 _ (by rw [if_pos c15])
          · refine mw_iload (pc' := 69) dX12_landOnWay_67 rfl rfl ?_
            refine mw_iconst (pc' := 70) (v := 1) dX12_landOnWay_69 rfl (by decide) ?_
            refine mw_iadd (pc' := 71) dX12_landOnWay_70 rfl ?_
            refine mw_goto (tgt := 78) dX12_landOnWay_71 (by decide) ?_
            exact J14 _ (by rw [if_neg c15])
    · replace K := K.2 c43
      refine mw_iload (pc' := 31) dX12_landOnWay_29 rfl rfl ?_
      refine mw_iload_n (pc' := 32) dX12_landOnWay_31 rfl rfl ?_
      refine mw_icmp_eq (pc' := 35) (tgt := 53) dX12_landOnWay_32 rfl (by decide) (fun c42 => ?_) (fun c42 => ?_)
      · replace K := K.1 c42
        refine mw_iload (pc' := 55) dX12_landOnWay_53 rfl rfl ?_
        refine mw_iload (pc' := 57) dX12_landOnWay_55 rfl rfl ?_
        refine mw_icmp_eq (pc' := 60) (tgt := 83) dX12_landOnWay_57 rfl (by decide) (fun c24 => ?_) (fun c24 => ?_)
        · replace K := K.1 c24
          refine mw_iload (pc' := 85) dX12_landOnWay_83 rfl rfl ?_
          refine mw_iload (pc' := 87) dX12_landOnWay_85 rfl rfl ?_
          have J19 : ∀ w18 : Int32, w18 = (if v5 ≤ v8 then (v8 - 1) else (v8 + 1)) → mW G kX12_landOnWay (d + 1) b 101 [some (.inr (some 47)), some (.inl v1), some (.inl v2), some (.inl v3), some (.inl v4), some (.inl v5), some (.inl v6), some (.inl v7), some (.inl v8)] ([.inl w18]) h Q := by
            intro w18 ew18
            replace K := K w18 ew18
            refine mw_istore (pc' := 103) dX12_landOnWay_101 rfl (by decide) ?_
            show mW _ _ _ _ _ [some (.inr (some 47)), some (.inl v1), some (.inl v2), some (.inl v3), some (.inl v4), some (.inl v5), some (.inl v6), some (.inl v7), some (.inl w18)] _ _ _
            refine mw_goto (tgt := 9) dX12_landOnWay_103 (by decide) ?_
            exact K
          refine mw_icmp_ge (pc' := 90) (tgt := 97) dX12_landOnWay_87 rfl (by decide) (fun c20 => ?_) (fun c20 => ?_)
          · refine mw_iload (pc' := 99) dX12_landOnWay_97 rfl rfl ?_
            refine mw_iconst (pc' := 100) (v := 1) dX12_landOnWay_99 rfl (by decide) ?_
            refine mw_isub (pc' := 101) dX12_landOnWay_100 rfl ?_
            exact J19 _ (by rw [if_pos c20])
          · refine mw_iload (pc' := 92) dX12_landOnWay_90 rfl rfl ?_
            refine mw_iconst (pc' := 93) (v := 1) dX12_landOnWay_92 rfl (by decide) ?_
            refine mw_iadd (pc' := 94) dX12_landOnWay_93 rfl ?_
            refine mw_goto (tgt := 101) dX12_landOnWay_94 (by decide) ?_
            exact J19 _ (by rw [if_neg c20])
        · replace K := K.2 c24
          refine mw_iload (pc' := 62) dX12_landOnWay_60 rfl rfl ?_
          refine mw_iload (pc' := 64) dX12_landOnWay_62 rfl rfl ?_
          have J22 : ∀ w21 : Int32, w21 = (if v4 ≤ v7 then (v7 - 1) else (v7 + 1)) → mW G kX12_landOnWay (d + 1) b 78 [some (.inr (some 47)), some (.inl v1), some (.inl v2), some (.inl v3), some (.inl v4), some (.inl v5), some (.inl v6), some (.inl v7), some (.inl v8)] ([.inl w21]) h Q := by
            intro w21 ew21
            replace K := K w21 ew21
            refine mw_istore (pc' := 80) dX12_landOnWay_78 rfl (by decide) ?_
            show mW _ _ _ _ _ [some (.inr (some 47)), some (.inl v1), some (.inl v2), some (.inl v3), some (.inl v4), some (.inl v5), some (.inl v6), some (.inl w21), some (.inl v8)] _ _ _
            refine mw_goto (tgt := 9) dX12_landOnWay_80 (by decide) ?_
            exact K
          refine mw_icmp_ge (pc' := 67) (tgt := 74) dX12_landOnWay_64 rfl (by decide) (fun c23 => ?_) (fun c23 => ?_)
          · refine mw_iload (pc' := 76) dX12_landOnWay_74 rfl rfl ?_
            refine mw_iconst (pc' := 77) (v := 1) dX12_landOnWay_76 rfl (by decide) ?_
            refine mw_isub (pc' := 78) dX12_landOnWay_77 rfl ?_
            exact J22 _ (by rw [if_pos c23])
          · refine mw_iload (pc' := 69) dX12_landOnWay_67 rfl rfl ?_
            refine mw_iconst (pc' := 70) (v := 1) dX12_landOnWay_69 rfl (by decide) ?_
            refine mw_iadd (pc' := 71) dX12_landOnWay_70 rfl ?_
            refine mw_goto (tgt := 78) dX12_landOnWay_71 (by decide) ?_
            exact J22 _ (by rw [if_neg c23])
      · replace K := K.2 c42
        refine mw_aload_n (pc' := 36) dX12_landOnWay_35 rfl rfl ?_
        refine mw_iload_n (pc' := 37) dX12_landOnWay_36 rfl rfl ?_
        refine mw_iload (pc' := 39) dX12_landOnWay_37 rfl rfl ?_
        refine mw_iload (pc' := 41) dX12_landOnWay_39 rfl rfl ?_
        refine mw_callV (pc' := 44) (b' := (0, 0)) (b1 := b) (av := [.inl v1, .inl v7, .inl v8]) (rest := []) dX12_landOnWay_41 rfl lkX12_193 rfl rfl (Nat.le_of_ble_eq_true rfl) ⟨Nat.le_of_eq (Nat.zero_add _), Nat.le_of_eq (Nat.zero_add _)⟩ (skT_47 hS) ?_
        refine mC_mono (fun r h25 hr => ?_) K
        obtain ⟨x26, rfl, hS, K⟩ := hr
        show mW _ _ _ _ _ _ [.inl x26] _ _
        refine mw_if_eq (pc' := 47) (tgt := 53) dX12_landOnWay_44 rfl (by decide) (fun c41 => ?_) (fun c41 => ?_)
        · replace K := K.1 c41
          refine mw_iload (pc' := 55) dX12_landOnWay_53 rfl rfl ?_
          refine mw_iload (pc' := 57) dX12_landOnWay_55 rfl rfl ?_
          refine mw_icmp_eq (pc' := 60) (tgt := 83) dX12_landOnWay_57 rfl (by decide) (fun c33 => ?_) (fun c33 => ?_)
          · replace K := K.1 c33
            refine mw_iload (pc' := 85) dX12_landOnWay_83 rfl rfl ?_
            refine mw_iload (pc' := 87) dX12_landOnWay_85 rfl rfl ?_
            have J28 : ∀ w27 : Int32, w27 = (if v5 ≤ v8 then (v8 - 1) else (v8 + 1)) → mW G kX12_landOnWay (d + 1) b 101 [some (.inr (some 47)), some (.inl v1), some (.inl v2), some (.inl v3), some (.inl v4), some (.inl v5), some (.inl v6), some (.inl v7), some (.inl v8)] ([.inl w27]) h25 Q := by
              intro w27 ew27
              replace K := K w27 ew27
              refine mw_istore (pc' := 103) dX12_landOnWay_101 rfl (by decide) ?_
              show mW _ _ _ _ _ [some (.inr (some 47)), some (.inl v1), some (.inl v2), some (.inl v3), some (.inl v4), some (.inl v5), some (.inl v6), some (.inl v7), some (.inl w27)] _ _ _
              refine mw_goto (tgt := 9) dX12_landOnWay_103 (by decide) ?_
              exact K
            refine mw_icmp_ge (pc' := 90) (tgt := 97) dX12_landOnWay_87 rfl (by decide) (fun c29 => ?_) (fun c29 => ?_)
            · refine mw_iload (pc' := 99) dX12_landOnWay_97 rfl rfl ?_
              refine mw_iconst (pc' := 100) (v := 1) dX12_landOnWay_99 rfl (by decide) ?_
              refine mw_isub (pc' := 101) dX12_landOnWay_100 rfl ?_
              exact J28 _ (by rw [if_pos c29])
            · refine mw_iload (pc' := 92) dX12_landOnWay_90 rfl rfl ?_
              refine mw_iconst (pc' := 93) (v := 1) dX12_landOnWay_92 rfl (by decide) ?_
              refine mw_iadd (pc' := 94) dX12_landOnWay_93 rfl ?_
              refine mw_goto (tgt := 101) dX12_landOnWay_94 (by decide) ?_
              exact J28 _ (by rw [if_neg c29])
          · replace K := K.2 c33
            refine mw_iload (pc' := 62) dX12_landOnWay_60 rfl rfl ?_
            refine mw_iload (pc' := 64) dX12_landOnWay_62 rfl rfl ?_
            have J31 : ∀ w30 : Int32, w30 = (if v4 ≤ v7 then (v7 - 1) else (v7 + 1)) → mW G kX12_landOnWay (d + 1) b 78 [some (.inr (some 47)), some (.inl v1), some (.inl v2), some (.inl v3), some (.inl v4), some (.inl v5), some (.inl v6), some (.inl v7), some (.inl v8)] ([.inl w30]) h25 Q := by
              intro w30 ew30
              replace K := K w30 ew30
              refine mw_istore (pc' := 80) dX12_landOnWay_78 rfl (by decide) ?_
              show mW _ _ _ _ _ [some (.inr (some 47)), some (.inl v1), some (.inl v2), some (.inl v3), some (.inl v4), some (.inl v5), some (.inl v6), some (.inl w30), some (.inl v8)] _ _ _
              refine mw_goto (tgt := 9) dX12_landOnWay_80 (by decide) ?_
              exact K
            refine mw_icmp_ge (pc' := 67) (tgt := 74) dX12_landOnWay_64 rfl (by decide) (fun c32 => ?_) (fun c32 => ?_)
            · refine mw_iload (pc' := 76) dX12_landOnWay_74 rfl rfl ?_
              refine mw_iconst (pc' := 77) (v := 1) dX12_landOnWay_76 rfl (by decide) ?_
              refine mw_isub (pc' := 78) dX12_landOnWay_77 rfl ?_
              exact J31 _ (by rw [if_pos c32])
            · refine mw_iload (pc' := 69) dX12_landOnWay_67 rfl rfl ?_
              refine mw_iconst (pc' := 70) (v := 1) dX12_landOnWay_69 rfl (by decide) ?_
              refine mw_iadd (pc' := 71) dX12_landOnWay_70 rfl ?_
              refine mw_goto (tgt := 78) dX12_landOnWay_71 (by decide) ?_
              exact J31 _ (by rw [if_neg c32])
        · replace K := K.2 c41
          refine mw_iload (pc' := 49) dX12_landOnWay_47 rfl rfl ?_
          refine mw_iconst (pc' := 50) (v := 1) dX12_landOnWay_49 rfl (by decide) ?_
          refine mw_iadd (pc' := 51) dX12_landOnWay_50 rfl ?_
          refine mw_istore (pc' := 53) dX12_landOnWay_51 rfl (by decide) ?_
          show mW _ _ _ _ _ [some (.inr (some 47)), some (.inl v1), some (.inl v2), some (.inl v3), some (.inl v4), some (.inl v5), some (.inl (v6 + 1)), some (.inl v7), some (.inl v8)] _ _ _
          refine mw_iload (pc' := 55) dX12_landOnWay_53 rfl rfl ?_
          refine mw_iload (pc' := 57) dX12_landOnWay_55 rfl rfl ?_
          refine mw_icmp_eq (pc' := 60) (tgt := 83) dX12_landOnWay_57 rfl (by decide) (fun c40 => ?_) (fun c40 => ?_)
          · replace K := K.1 c40
            refine mw_iload (pc' := 85) dX12_landOnWay_83 rfl rfl ?_
            refine mw_iload (pc' := 87) dX12_landOnWay_85 rfl rfl ?_
            have J35 : ∀ w34 : Int32, w34 = (if v5 ≤ v8 then (v8 - 1) else (v8 + 1)) → mW G kX12_landOnWay (d + 1) b 101 [some (.inr (some 47)), some (.inl v1), some (.inl v2), some (.inl v3), some (.inl v4), some (.inl v5), some (.inl (v6 + 1)), some (.inl v7), some (.inl v8)] ([.inl w34]) h25 Q := by
              intro w34 ew34
              replace K := K w34 ew34
              refine mw_istore (pc' := 103) dX12_landOnWay_101 rfl (by decide) ?_
              show mW _ _ _ _ _ [some (.inr (some 47)), some (.inl v1), some (.inl v2), some (.inl v3), some (.inl v4), some (.inl v5), some (.inl (v6 + 1)), some (.inl v7), some (.inl w34)] _ _ _
              refine mw_goto (tgt := 9) dX12_landOnWay_103 (by decide) ?_
              exact K
            refine mw_icmp_ge (pc' := 90) (tgt := 97) dX12_landOnWay_87 rfl (by decide) (fun c36 => ?_) (fun c36 => ?_)
            · refine mw_iload (pc' := 99) dX12_landOnWay_97 rfl rfl ?_
              refine mw_iconst (pc' := 100) (v := 1) dX12_landOnWay_99 rfl (by decide) ?_
              refine mw_isub (pc' := 101) dX12_landOnWay_100 rfl ?_
              exact J35 _ (by rw [if_pos c36])
            · refine mw_iload (pc' := 92) dX12_landOnWay_90 rfl rfl ?_
              refine mw_iconst (pc' := 93) (v := 1) dX12_landOnWay_92 rfl (by decide) ?_
              refine mw_iadd (pc' := 94) dX12_landOnWay_93 rfl ?_
              refine mw_goto (tgt := 101) dX12_landOnWay_94 (by decide) ?_
              exact J35 _ (by rw [if_neg c36])
          · replace K := K.2 c40
            refine mw_iload (pc' := 62) dX12_landOnWay_60 rfl rfl ?_
            refine mw_iload (pc' := 64) dX12_landOnWay_62 rfl rfl ?_
            have J38 : ∀ w37 : Int32, w37 = (if v4 ≤ v7 then (v7 - 1) else (v7 + 1)) → mW G kX12_landOnWay (d + 1) b 78 [some (.inr (some 47)), some (.inl v1), some (.inl v2), some (.inl v3), some (.inl v4), some (.inl v5), some (.inl (v6 + 1)), some (.inl v7), some (.inl v8)] ([.inl w37]) h25 Q := by
              intro w37 ew37
              replace K := K w37 ew37
              refine mw_istore (pc' := 80) dX12_landOnWay_78 rfl (by decide) ?_
              show mW _ _ _ _ _ [some (.inr (some 47)), some (.inl v1), some (.inl v2), some (.inl v3), some (.inl v4), some (.inl v5), some (.inl (v6 + 1)), some (.inl w37), some (.inl v8)] _ _ _
              refine mw_goto (tgt := 9) dX12_landOnWay_80 (by decide) ?_
              exact K
            refine mw_icmp_ge (pc' := 67) (tgt := 74) dX12_landOnWay_64 rfl (by decide) (fun c39 => ?_) (fun c39 => ?_)
            · refine mw_iload (pc' := 76) dX12_landOnWay_74 rfl rfl ?_
              refine mw_iconst (pc' := 77) (v := 1) dX12_landOnWay_76 rfl (by decide) ?_
              refine mw_isub (pc' := 78) dX12_landOnWay_77 rfl ?_
              exact J38 _ (by rw [if_pos c39])
            · refine mw_iload (pc' := 69) dX12_landOnWay_67 rfl rfl ?_
              refine mw_iconst (pc' := 70) (v := 1) dX12_landOnWay_69 rfl (by decide) ?_
              refine mw_iadd (pc' := 71) dX12_landOnWay_70 rfl ?_
              refine mw_goto (tgt := 78) dX12_landOnWay_71 (by decide) ?_
              exact J38 _ (by rw [if_neg c39])
  · replace K := K.2 c88
    refine mw_iload (pc' := 18) dX12_landOnWay_16 rfl rfl ?_
    refine mw_iload (pc' := 20) dX12_landOnWay_18 rfl rfl ?_
    refine mw_icmp_eq (pc' := 23) (tgt := 106) dX12_landOnWay_20 rfl (by decide) (fun c87 => ?_) (fun c87 => ?_)
    · replace K := K.1 c87
      refine mw_iload (pc' := 108) dX12_landOnWay_106 rfl rfl ?_
      exact mw_iret dX12_landOnWay_108 rfl rfl K
    · replace K := K.2 c87
      refine mw_iload (pc' := 25) dX12_landOnWay_23 rfl rfl ?_
      refine mw_iload_n (pc' := 26) dX12_landOnWay_25 rfl rfl ?_
      refine mw_icmp_ne (pc' := 29) (tgt := 35) dX12_landOnWay_26 rfl (by decide) (fun c86 => ?_) (fun c86 => ?_)
      · replace K := K.1 c86
        refine mw_aload_n (pc' := 36) dX12_landOnWay_35 rfl rfl ?_
        refine mw_iload_n (pc' := 37) dX12_landOnWay_36 rfl rfl ?_
        refine mw_iload (pc' := 39) dX12_landOnWay_37 rfl rfl ?_
        refine mw_iload (pc' := 41) dX12_landOnWay_39 rfl rfl ?_
        refine mw_callV (pc' := 44) (b' := (0, 0)) (b1 := b) (av := [.inl v1, .inl v7, .inl v8]) (rest := []) dX12_landOnWay_41 rfl lkX12_193 rfl rfl (Nat.le_of_ble_eq_true rfl) ⟨Nat.le_of_eq (Nat.zero_add _), Nat.le_of_eq (Nat.zero_add _)⟩ (skT_47 hS) ?_
        refine mC_mono (fun r h44 hr => ?_) K
        obtain ⟨x45, rfl, hS, K⟩ := hr
        show mW _ _ _ _ _ _ [.inl x45] _ _
        refine mw_if_eq (pc' := 47) (tgt := 53) dX12_landOnWay_44 rfl (by decide) (fun c60 => ?_) (fun c60 => ?_)
        · replace K := K.1 c60
          refine mw_iload (pc' := 55) dX12_landOnWay_53 rfl rfl ?_
          refine mw_iload (pc' := 57) dX12_landOnWay_55 rfl rfl ?_
          refine mw_icmp_eq (pc' := 60) (tgt := 83) dX12_landOnWay_57 rfl (by decide) (fun c52 => ?_) (fun c52 => ?_)
          · replace K := K.1 c52
            refine mw_iload (pc' := 85) dX12_landOnWay_83 rfl rfl ?_
            refine mw_iload (pc' := 87) dX12_landOnWay_85 rfl rfl ?_
            have J47 : ∀ w46 : Int32, w46 = (if v5 ≤ v8 then (v8 - 1) else (v8 + 1)) → mW G kX12_landOnWay (d + 1) b 101 [some (.inr (some 47)), some (.inl v1), some (.inl v2), some (.inl v3), some (.inl v4), some (.inl v5), some (.inl v6), some (.inl v7), some (.inl v8)] ([.inl w46]) h44 Q := by
              intro w46 ew46
              replace K := K w46 ew46
              refine mw_istore (pc' := 103) dX12_landOnWay_101 rfl (by decide) ?_
              show mW _ _ _ _ _ [some (.inr (some 47)), some (.inl v1), some (.inl v2), some (.inl v3), some (.inl v4), some (.inl v5), some (.inl v6), some (.inl v7), some (.inl w46)] _ _ _
              refine mw_goto (tgt := 9) dX12_landOnWay_103 (by decide) ?_
              exact K
            refine mw_icmp_ge (pc' := 90) (tgt := 97) dX12_landOnWay_87 rfl (by decide) (fun c48 => ?_) (fun c48 => ?_)
            · refine mw_iload (pc' := 99) dX12_landOnWay_97 rfl rfl ?_
              refine mw_iconst (pc' := 100) (v := 1) dX12_landOnWay_99 rfl (by decide) ?_
              refine mw_isub (pc' := 101) dX12_landOnWay_100 rfl ?_
              exact J47 _ (by rw [if_pos c48])
            · refine mw_iload (pc' := 92) dX12_landOnWay_90 rfl rfl ?_
              refine mw_iconst (pc' := 93) (v := 1) dX12_landOnWay_92 rfl (by decide) ?_
              refine mw_iadd (pc' := 94) dX12_landOnWay_93 rfl ?_
              refine mw_goto (tgt := 101) dX12_landOnWay_94 (by decide) ?_
              exact J47 _ (by rw [if_neg c48])
          · replace K := K.2 c52
            refine mw_iload (pc' := 62) dX12_landOnWay_60 rfl rfl ?_
            refine mw_iload (pc' := 64) dX12_landOnWay_62 rfl rfl ?_
            have J50 : ∀ w49 : Int32, w49 = (if v4 ≤ v7 then (v7 - 1) else (v7 + 1)) → mW G kX12_landOnWay (d + 1) b 78 [some (.inr (some 47)), some (.inl v1), some (.inl v2), some (.inl v3), some (.inl v4), some (.inl v5), some (.inl v6), some (.inl v7), some (.inl v8)] ([.inl w49]) h44 Q := by
              intro w49 ew49
              replace K := K w49 ew49
              refine mw_istore (pc' := 80) dX12_landOnWay_78 rfl (by decide) ?_
              show mW _ _ _ _ _ [some (.inr (some 47)), some (.inl v1), some (.inl v2), some (.inl v3), some (.inl v4), some (.inl v5), some (.inl v6), some (.inl w49), some (.inl v8)] _ _ _
              refine mw_goto (tgt := 9) dX12_landOnWay_80 (by decide) ?_
              exact K
            refine mw_icmp_ge (pc' := 67) (tgt := 74) dX12_landOnWay_64 rfl (by decide) (fun c51 => ?_) (fun c51 => ?_)
            · refine mw_iload (pc' := 76) dX12_landOnWay_74 rfl rfl ?_
              refine mw_iconst (pc' := 77) (v := 1) dX12_landOnWay_76 rfl (by decide) ?_
              refine mw_isub (pc' := 78) dX12_landOnWay_77 rfl ?_
              exact J50 _ (by rw [if_pos c51])
            · refine mw_iload (pc' := 69) dX12_landOnWay_67 rfl rfl ?_
              refine mw_iconst (pc' := 70) (v := 1) dX12_landOnWay_69 rfl (by decide) ?_
              refine mw_iadd (pc' := 71) dX12_landOnWay_70 rfl ?_
              refine mw_goto (tgt := 78) dX12_landOnWay_71 (by decide) ?_
              exact J50 _ (by rw [if_neg c51])
        · replace K := K.2 c60
          refine mw_iload (pc' := 49) dX12_landOnWay_47 rfl rfl ?_
          refine mw_iconst (pc' := 50) (v := 1) dX12_landOnWay_49 rfl (by decide) ?_
          refine mw_iadd (pc' := 51) dX12_landOnWay_50 rfl ?_
          refine mw_istore (pc' := 53) dX12_landOnWay_51 rfl (by decide) ?_
          show mW _ _ _ _ _ [some (.inr (some 47)), some (.inl v1), some (.inl v2), some (.inl v3), some (.inl v4), some (.inl v5), some (.inl (v6 + 1)), some (.inl v7), some (.inl v8)] _ _ _
          refine mw_iload (pc' := 55) dX12_landOnWay_53 rfl rfl ?_
          refine mw_iload (pc' := 57) dX12_landOnWay_55 rfl rfl ?_
          refine mw_icmp_eq (pc' := 60) (tgt := 83) dX12_landOnWay_57 rfl (by decide) (fun c59 => ?_) (fun c59 => ?_)
          · replace K := K.1 c59
            refine mw_iload (pc' := 85) dX12_landOnWay_83 rfl rfl ?_
            refine mw_iload (pc' := 87) dX12_landOnWay_85 rfl rfl ?_
            have J54 : ∀ w53 : Int32, w53 = (if v5 ≤ v8 then (v8 - 1) else (v8 + 1)) → mW G kX12_landOnWay (d + 1) b 101 [some (.inr (some 47)), some (.inl v1), some (.inl v2), some (.inl v3), some (.inl v4), some (.inl v5), some (.inl (v6 + 1)), some (.inl v7), some (.inl v8)] ([.inl w53]) h44 Q := by
              intro w53 ew53
              replace K := K w53 ew53
              refine mw_istore (pc' := 103) dX12_landOnWay_101 rfl (by decide) ?_
              show mW _ _ _ _ _ [some (.inr (some 47)), some (.inl v1), some (.inl v2), some (.inl v3), some (.inl v4), some (.inl v5), some (.inl (v6 + 1)), some (.inl v7), some (.inl w53)] _ _ _
              refine mw_goto (tgt := 9) dX12_landOnWay_103 (by decide) ?_
              exact K
            refine mw_icmp_ge (pc' := 90) (tgt := 97) dX12_landOnWay_87 rfl (by decide) (fun c55 => ?_) (fun c55 => ?_)
            · refine mw_iload (pc' := 99) dX12_landOnWay_97 rfl rfl ?_
              refine mw_iconst (pc' := 100) (v := 1) dX12_landOnWay_99 rfl (by decide) ?_
              refine mw_isub (pc' := 101) dX12_landOnWay_100 rfl ?_
              exact J54 _ (by rw [if_pos c55])
            · refine mw_iload (pc' := 92) dX12_landOnWay_90 rfl rfl ?_
              refine mw_iconst (pc' := 93) (v := 1) dX12_landOnWay_92 rfl (by decide) ?_
              refine mw_iadd (pc' := 94) dX12_landOnWay_93 rfl ?_
              refine mw_goto (tgt := 101) dX12_landOnWay_94 (by decide) ?_
              exact J54 _ (by rw [if_neg c55])
          · replace K := K.2 c59
            refine mw_iload (pc' := 62) dX12_landOnWay_60 rfl rfl ?_
            refine mw_iload (pc' := 64) dX12_landOnWay_62 rfl rfl ?_
            have J57 : ∀ w56 : Int32, w56 = (if v4 ≤ v7 then (v7 - 1) else (v7 + 1)) → mW G kX12_landOnWay (d + 1) b 78 [some (.inr (some 47)), some (.inl v1), some (.inl v2), some (.inl v3), some (.inl v4), some (.inl v5), some (.inl (v6 + 1)), some (.inl v7), some (.inl v8)] ([.inl w56]) h44 Q := by
              intro w56 ew56
              replace K := K w56 ew56
              refine mw_istore (pc' := 80) dX12_landOnWay_78 rfl (by decide) ?_
              show mW _ _ _ _ _ [some (.inr (some 47)), some (.inl v1), some (.inl v2), some (.inl v3), some (.inl v4), some (.inl v5), some (.inl (v6 + 1)), some (.inl w56), some (.inl v8)] _ _ _
              refine mw_goto (tgt := 9) dX12_landOnWay_80 (by decide) ?_
              exact K
            refine mw_icmp_ge (pc' := 67) (tgt := 74) dX12_landOnWay_64 rfl (by decide) (fun c58 => ?_) (fun c58 => ?_)
            · refine mw_iload (pc' := 76) dX12_landOnWay_74 rfl rfl ?_
              refine mw_iconst (pc' := 77) (v := 1) dX12_landOnWay_76 rfl (by decide) ?_
              refine mw_isub (pc' := 78) dX12_landOnWay_77 rfl ?_
              exact J57 _ (by rw [if_pos c58])
            · refine mw_iload (pc' := 69) dX12_landOnWay_67 rfl rfl ?_
              refine mw_iconst (pc' := 70) (v := 1) dX12_landOnWay_69 rfl (by decide) ?_
              refine mw_iadd (pc' := 71) dX12_landOnWay_70 rfl ?_
              refine mw_goto (tgt := 78) dX12_landOnWay_71 (by decide) ?_
              exact J57 _ (by rw [if_neg c58])
      · replace K := K.2 c86
        refine mw_iload (pc' := 31) dX12_landOnWay_29 rfl rfl ?_
        refine mw_iload_n (pc' := 32) dX12_landOnWay_31 rfl rfl ?_
        refine mw_icmp_eq (pc' := 35) (tgt := 53) dX12_landOnWay_32 rfl (by decide) (fun c85 => ?_) (fun c85 => ?_)
        · replace K := K.1 c85
          refine mw_iload (pc' := 55) dX12_landOnWay_53 rfl rfl ?_
          refine mw_iload (pc' := 57) dX12_landOnWay_55 rfl rfl ?_
          refine mw_icmp_eq (pc' := 60) (tgt := 83) dX12_landOnWay_57 rfl (by decide) (fun c67 => ?_) (fun c67 => ?_)
          · replace K := K.1 c67
            refine mw_iload (pc' := 85) dX12_landOnWay_83 rfl rfl ?_
            refine mw_iload (pc' := 87) dX12_landOnWay_85 rfl rfl ?_
            have J62 : ∀ w61 : Int32, w61 = (if v5 ≤ v8 then (v8 - 1) else (v8 + 1)) → mW G kX12_landOnWay (d + 1) b 101 [some (.inr (some 47)), some (.inl v1), some (.inl v2), some (.inl v3), some (.inl v4), some (.inl v5), some (.inl v6), some (.inl v7), some (.inl v8)] ([.inl w61]) h Q := by
              intro w61 ew61
              replace K := K w61 ew61
              refine mw_istore (pc' := 103) dX12_landOnWay_101 rfl (by decide) ?_
              show mW _ _ _ _ _ [some (.inr (some 47)), some (.inl v1), some (.inl v2), some (.inl v3), some (.inl v4), some (.inl v5), some (.inl v6), some (.inl v7), some (.inl w61)] _ _ _
              refine mw_goto (tgt := 9) dX12_landOnWay_103 (by decide) ?_
              exact K
            refine mw_icmp_ge (pc' := 90) (tgt := 97) dX12_landOnWay_87 rfl (by decide) (fun c63 => ?_) (fun c63 => ?_)
            · refine mw_iload (pc' := 99) dX12_landOnWay_97 rfl rfl ?_
              refine mw_iconst (pc' := 100) (v := 1) dX12_landOnWay_99 rfl (by decide) ?_
              refine mw_isub (pc' := 101) dX12_landOnWay_100 rfl ?_
              exact J62 _ (by rw [if_pos c63])
            · refine mw_iload (pc' := 92) dX12_landOnWay_90 rfl rfl ?_
              refine mw_iconst (pc' := 93) (v := 1) dX12_landOnWay_92 rfl (by decide) ?_
              refine mw_iadd (pc' := 94) dX12_landOnWay_93 rfl ?_
              refine mw_goto (tgt := 101) dX12_landOnWay_94 (by decide) ?_
              exact J62 _ (by rw [if_neg c63])
          · replace K := K.2 c67
            refine mw_iload (pc' := 62) dX12_landOnWay_60 rfl rfl ?_
            refine mw_iload (pc' := 64) dX12_landOnWay_62 rfl rfl ?_
            have J65 : ∀ w64 : Int32, w64 = (if v4 ≤ v7 then (v7 - 1) else (v7 + 1)) → mW G kX12_landOnWay (d + 1) b 78 [some (.inr (some 47)), some (.inl v1), some (.inl v2), some (.inl v3), some (.inl v4), some (.inl v5), some (.inl v6), some (.inl v7), some (.inl v8)] ([.inl w64]) h Q := by
              intro w64 ew64
              replace K := K w64 ew64
              refine mw_istore (pc' := 80) dX12_landOnWay_78 rfl (by decide) ?_
              show mW _ _ _ _ _ [some (.inr (some 47)), some (.inl v1), some (.inl v2), some (.inl v3), some (.inl v4), some (.inl v5), some (.inl v6), some (.inl w64), some (.inl v8)] _ _ _
              refine mw_goto (tgt := 9) dX12_landOnWay_80 (by decide) ?_
              exact K
            refine mw_icmp_ge (pc' := 67) (tgt := 74) dX12_landOnWay_64 rfl (by decide) (fun c66 => ?_) (fun c66 => ?_)
            · refine mw_iload (pc' := 76) dX12_landOnWay_74 rfl rfl ?_
              refine mw_iconst (pc' := 77) (v := 1) dX12_landOnWay_76 rfl (by decide) ?_
              refine mw_isub (pc' := 78) dX12_landOnWay_77 rfl ?_
              exact J65 _ (by rw [if_pos c66])
            · refine mw_iload (pc' := 69) dX12_landOnWay_67 rfl rfl ?_
              refine mw_iconst (pc' := 70) (v := 1) dX12_landOnWay_69 rfl (by decide) ?_
              refine mw_iadd (pc' := 71) dX12_landOnWay_70 rfl ?_
              refine mw_goto (tgt := 78) dX12_landOnWay_71 (by decide) ?_
              exact J65 _ (by rw [if_neg c66])
        · replace K := K.2 c85
          refine mw_aload_n (pc' := 36) dX12_landOnWay_35 rfl rfl ?_
          refine mw_iload_n (pc' := 37) dX12_landOnWay_36 rfl rfl ?_
          refine mw_iload (pc' := 39) dX12_landOnWay_37 rfl rfl ?_
          refine mw_iload (pc' := 41) dX12_landOnWay_39 rfl rfl ?_
          refine mw_callV (pc' := 44) (b' := (0, 0)) (b1 := b) (av := [.inl v1, .inl v7, .inl v8]) (rest := []) dX12_landOnWay_41 rfl lkX12_193 rfl rfl (Nat.le_of_ble_eq_true rfl) ⟨Nat.le_of_eq (Nat.zero_add _), Nat.le_of_eq (Nat.zero_add _)⟩ (skT_47 hS) ?_
          refine mC_mono (fun r h68 hr => ?_) K
          obtain ⟨x69, rfl, hS, K⟩ := hr
          show mW _ _ _ _ _ _ [.inl x69] _ _
          refine mw_if_eq (pc' := 47) (tgt := 53) dX12_landOnWay_44 rfl (by decide) (fun c84 => ?_) (fun c84 => ?_)
          · replace K := K.1 c84
            refine mw_iload (pc' := 55) dX12_landOnWay_53 rfl rfl ?_
            refine mw_iload (pc' := 57) dX12_landOnWay_55 rfl rfl ?_
            refine mw_icmp_eq (pc' := 60) (tgt := 83) dX12_landOnWay_57 rfl (by decide) (fun c76 => ?_) (fun c76 => ?_)
            · replace K := K.1 c76
              refine mw_iload (pc' := 85) dX12_landOnWay_83 rfl rfl ?_
              refine mw_iload (pc' := 87) dX12_landOnWay_85 rfl rfl ?_
              have J71 : ∀ w70 : Int32, w70 = (if v5 ≤ v8 then (v8 - 1) else (v8 + 1)) → mW G kX12_landOnWay (d + 1) b 101 [some (.inr (some 47)), some (.inl v1), some (.inl v2), some (.inl v3), some (.inl v4), some (.inl v5), some (.inl v6), some (.inl v7), some (.inl v8)] ([.inl w70]) h68 Q := by
                intro w70 ew70
                replace K := K w70 ew70
                refine mw_istore (pc' := 103) dX12_landOnWay_101 rfl (by decide) ?_
                show mW _ _ _ _ _ [some (.inr (some 47)), some (.inl v1), some (.inl v2), some (.inl v3), some (.inl v4), some (.inl v5), some (.inl v6), some (.inl v7), some (.inl w70)] _ _ _
                refine mw_goto (tgt := 9) dX12_landOnWay_103 (by decide) ?_
                exact K
              refine mw_icmp_ge (pc' := 90) (tgt := 97) dX12_landOnWay_87 rfl (by decide) (fun c72 => ?_) (fun c72 => ?_)
              · refine mw_iload (pc' := 99) dX12_landOnWay_97 rfl rfl ?_
                refine mw_iconst (pc' := 100) (v := 1) dX12_landOnWay_99 rfl (by decide) ?_
                refine mw_isub (pc' := 101) dX12_landOnWay_100 rfl ?_
                exact J71 _ (by rw [if_pos c72])
              · refine mw_iload (pc' := 92) dX12_landOnWay_90 rfl rfl ?_
                refine mw_iconst (pc' := 93) (v := 1) dX12_landOnWay_92 rfl (by decide) ?_
                refine mw_iadd (pc' := 94) dX12_landOnWay_93 rfl ?_
                refine mw_goto (tgt := 101) dX12_landOnWay_94 (by decide) ?_
                exact J71 _ (by rw [if_neg c72])
            · replace K := K.2 c76
              refine mw_iload (pc' := 62) dX12_landOnWay_60 rfl rfl ?_
              refine mw_iload (pc' := 64) dX12_landOnWay_62 rfl rfl ?_
              have J74 : ∀ w73 : Int32, w73 = (if v4 ≤ v7 then (v7 - 1) else (v7 + 1)) → mW G kX12_landOnWay (d + 1) b 78 [some (.inr (some 47)), some (.inl v1), some (.inl v2), some (.inl v3), some (.inl v4), some (.inl v5), some (.inl v6), some (.inl v7), some (.inl v8)] ([.inl w73]) h68 Q := by
                intro w73 ew73
                replace K := K w73 ew73
                refine mw_istore (pc' := 80) dX12_landOnWay_78 rfl (by decide) ?_
                show mW _ _ _ _ _ [some (.inr (some 47)), some (.inl v1), some (.inl v2), some (.inl v3), some (.inl v4), some (.inl v5), some (.inl v6), some (.inl w73), some (.inl v8)] _ _ _
                refine mw_goto (tgt := 9) dX12_landOnWay_80 (by decide) ?_
                exact K
              refine mw_icmp_ge (pc' := 67) (tgt := 74) dX12_landOnWay_64 rfl (by decide) (fun c75 => ?_) (fun c75 => ?_)
              · refine mw_iload (pc' := 76) dX12_landOnWay_74 rfl rfl ?_
                refine mw_iconst (pc' := 77) (v := 1) dX12_landOnWay_76 rfl (by decide) ?_
                refine mw_isub (pc' := 78) dX12_landOnWay_77 rfl ?_
                exact J74 _ (by rw [if_pos c75])
              · refine mw_iload (pc' := 69) dX12_landOnWay_67 rfl rfl ?_
                refine mw_iconst (pc' := 70) (v := 1) dX12_landOnWay_69 rfl (by decide) ?_
                refine mw_iadd (pc' := 71) dX12_landOnWay_70 rfl ?_
                refine mw_goto (tgt := 78) dX12_landOnWay_71 (by decide) ?_
                exact J74 _ (by rw [if_neg c75])
          · replace K := K.2 c84
            refine mw_iload (pc' := 49) dX12_landOnWay_47 rfl rfl ?_
            refine mw_iconst (pc' := 50) (v := 1) dX12_landOnWay_49 rfl (by decide) ?_
            refine mw_iadd (pc' := 51) dX12_landOnWay_50 rfl ?_
            refine mw_istore (pc' := 53) dX12_landOnWay_51 rfl (by decide) ?_
            show mW _ _ _ _ _ [some (.inr (some 47)), some (.inl v1), some (.inl v2), some (.inl v3), some (.inl v4), some (.inl v5), some (.inl (v6 + 1)), some (.inl v7), some (.inl v8)] _ _ _
            refine mw_iload (pc' := 55) dX12_landOnWay_53 rfl rfl ?_
            refine mw_iload (pc' := 57) dX12_landOnWay_55 rfl rfl ?_
            refine mw_icmp_eq (pc' := 60) (tgt := 83) dX12_landOnWay_57 rfl (by decide) (fun c83 => ?_) (fun c83 => ?_)
            · replace K := K.1 c83
              refine mw_iload (pc' := 85) dX12_landOnWay_83 rfl rfl ?_
              refine mw_iload (pc' := 87) dX12_landOnWay_85 rfl rfl ?_
              have J78 : ∀ w77 : Int32, w77 = (if v5 ≤ v8 then (v8 - 1) else (v8 + 1)) → mW G kX12_landOnWay (d + 1) b 101 [some (.inr (some 47)), some (.inl v1), some (.inl v2), some (.inl v3), some (.inl v4), some (.inl v5), some (.inl (v6 + 1)), some (.inl v7), some (.inl v8)] ([.inl w77]) h68 Q := by
                intro w77 ew77
                replace K := K w77 ew77
                refine mw_istore (pc' := 103) dX12_landOnWay_101 rfl (by decide) ?_
                show mW _ _ _ _ _ [some (.inr (some 47)), some (.inl v1), some (.inl v2), some (.inl v3), some (.inl v4), some (.inl v5), some (.inl (v6 + 1)), some (.inl v7), some (.inl w77)] _ _ _
                refine mw_goto (tgt := 9) dX12_landOnWay_103 (by decide) ?_
                exact K
              refine mw_icmp_ge (pc' := 90) (tgt := 97) dX12_landOnWay_87 rfl (by decide) (fun c79 => ?_) (fun c79 => ?_)
              · refine mw_iload (pc' := 99) dX12_landOnWay_97 rfl rfl ?_
                refine mw_iconst (pc' := 100) (v := 1) dX12_landOnWay_99 rfl (by decide) ?_
                refine mw_isub (pc' := 101) dX12_landOnWay_100 rfl ?_
                exact J78 _ (by rw [if_pos c79])
              · refine mw_iload (pc' := 92) dX12_landOnWay_90 rfl rfl ?_
                refine mw_iconst (pc' := 93) (v := 1) dX12_landOnWay_92 rfl (by decide) ?_
                refine mw_iadd (pc' := 94) dX12_landOnWay_93 rfl ?_
                refine mw_goto (tgt := 101) dX12_landOnWay_94 (by decide) ?_
                exact J78 _ (by rw [if_neg c79])
            · replace K := K.2 c83
              refine mw_iload (pc' := 62) dX12_landOnWay_60 rfl rfl ?_
              refine mw_iload (pc' := 64) dX12_landOnWay_62 rfl rfl ?_
              have J81 : ∀ w80 : Int32, w80 = (if v4 ≤ v7 then (v7 - 1) else (v7 + 1)) → mW G kX12_landOnWay (d + 1) b 78 [some (.inr (some 47)), some (.inl v1), some (.inl v2), some (.inl v3), some (.inl v4), some (.inl v5), some (.inl (v6 + 1)), some (.inl v7), some (.inl v8)] ([.inl w80]) h68 Q := by
                intro w80 ew80
                replace K := K w80 ew80
                refine mw_istore (pc' := 80) dX12_landOnWay_78 rfl (by decide) ?_
                show mW _ _ _ _ _ [some (.inr (some 47)), some (.inl v1), some (.inl v2), some (.inl v3), some (.inl v4), some (.inl v5), some (.inl (v6 + 1)), some (.inl w80), some (.inl v8)] _ _ _
                refine mw_goto (tgt := 9) dX12_landOnWay_80 (by decide) ?_
                exact K
              refine mw_icmp_ge (pc' := 67) (tgt := 74) dX12_landOnWay_64 rfl (by decide) (fun c82 => ?_) (fun c82 => ?_)
              · refine mw_iload (pc' := 76) dX12_landOnWay_74 rfl rfl ?_
                refine mw_iconst (pc' := 77) (v := 1) dX12_landOnWay_76 rfl (by decide) ?_
                refine mw_isub (pc' := 78) dX12_landOnWay_77 rfl ?_
                exact J81 _ (by rw [if_pos c82])
              · refine mw_iload (pc' := 69) dX12_landOnWay_67 rfl rfl ?_
                refine mw_iconst (pc' := 70) (v := 1) dX12_landOnWay_69 rfl (by decide) ?_
                refine mw_iadd (pc' := 71) dX12_landOnWay_70 rfl ?_
                refine mw_goto (tgt := 78) dX12_landOnWay_71 (by decide) ?_
                exact J81 _ (by rw [if_neg c82])

set_option maxRecDepth 100000 in
set_option maxHeartbeats 4000000 in
theorem qX12_levelOf {G : mG} {d : Nat} {b : Nat × Nat} {h : mH} {Q : Option mV → mH → Prop} (v1 : Int32) (v2 : Int32) (v3 : Int32) (v4 : Int32) (v5 : Int32) (v6 : Int32) (hS : mSk h)
    (K : vp_in v2 6 ∧ vp_in 0 9 ∧ ∀ h3, h3 = mSI h 68 0 (mI h 56 v2.toNatClampNeg) → vp_in v2 6 ∧ vp_in 1 9 ∧ ∀ h6, h6 = mSI h3 68 1 (mI h3 55 v2.toNatClampNeg) → vp_in 2 9 ∧ ∀ h8, h8 = mSI h6 68 2 v2 → vp_in 3 9 ∧ ∀ h10, h10 = mSI h8 68 3 v5 → vp_in 4 9 ∧ ∀ h12, h12 = mSI h10 68 4 v6 → vp_in v2 6 ∧ vp_in v2 6 ∧ vp_in 5 9 ∧ ∀ h16, h16 = mSI h12 68 5 ((f_X12_size ((mI h12 53 v2.toNatClampNeg) - v3)) + (f_X12_size ((mI h12 54 v2.toNatClampNeg) - v4))) → vp_in v2 6 ∧ vp_in 6 9 ∧ ∀ h19, h19 = mSI h16 68 6 ((mI h16 54 v2.toNatClampNeg) - v4) → vp_in v2 6 ∧ vp_in 7 9 ∧ ∀ h22, h22 = mSI h19 68 7 ((mI h19 53 v2.toNatClampNeg) - v3) → vp_in v2 6 ∧ vp_in v2 6 ∧ mC G kX12_landOnWay (d + 1) (0, 0) [.inr (some 47), .inl v1, .inl v3, .inl v4, .inl (mI h22 53 v2.toNatClampNeg), .inl (mI h22 54 v2.toNatClampNeg)] h22 (fun r h25 => ∃ x26, r = some (.inl x26) ∧ mSk h25 ∧ vp_in 8 9 ∧ ∀ h28, h28 = mSI h25 68 8 x26 → mW G kX12_levelOf (d + 2) b 138 [some (.inr (some 47)), none, none, none, none, none, none, some (.inl 0), none] [] h28 Q)) : mC G kX12_levelOf (d + 2) b [.inr (some 47), .inl v1, .inl v2, .inl v3, .inl v4, .inl v5, .inl v6] h Q := by
  refine mC_in rfl (Nat.le_of_ble_eq_true rfl) ?_
  show mW _ _ _ _ _ [some (.inr (some 47)), some (.inl v1), some (.inl v2), some (.inl v3), some (.inl v4), some (.inl v5), some (.inl v6), none, none] _ _ _
  refine mw_aload_n (pc' := 1) dX12_levelOf_0 rfl rfl ?_
  refine mw_getR (pc' := 4) dX12_levelOf_1 rfl flX12_72 rfl (skT_47 hS) ?_
  rw [skR_47_32 hS]
  refine mw_iconst (pc' := 5) (v := 0) dX12_levelOf_4 rfl (by decide) ?_
  refine mw_aload_n (pc' := 6) dX12_levelOf_5 rfl rfl ?_
  refine mw_getR (pc' := 9) dX12_levelOf_6 rfl flX12_35 rfl (skT_47 hS) ?_
  rw [skR_47_10 hS]
  refine mw_iload_n (pc' := 10) dX12_levelOf_9 rfl rfl ?_
  obtain ⟨o1, K⟩ := K
  refine mw_ialdL (pc' := 11) dX12_levelOf_10 rfl (skT_56 hS) (skL_56 hS) o1 ?_
  obtain ⟨o2, K⟩ := K
  refine mw_iastK (pc' := 12) dX12_levelOf_11 rfl (skT_68 hS) (skL_68 hS) o2 hS (fun h3 eh3 hS => ?_)
  replace K := K h3 eh3
  refine mw_aload_n (pc' := 13) dX12_levelOf_12 rfl rfl ?_
  refine mw_getR (pc' := 16) dX12_levelOf_13 rfl flX12_72 rfl (skT_47 hS) ?_
  rw [skR_47_32 hS]
  refine mw_iconst (pc' := 17) (v := 1) dX12_levelOf_16 rfl (by decide) ?_
  refine mw_aload_n (pc' := 18) dX12_levelOf_17 rfl rfl ?_
  refine mw_getR (pc' := 21) dX12_levelOf_18 rfl flX12_32 rfl (skT_47 hS) ?_
  rw [skR_47_9 hS]
  refine mw_iload_n (pc' := 22) dX12_levelOf_21 rfl rfl ?_
  obtain ⟨o4, K⟩ := K
  refine mw_ialdL (pc' := 23) dX12_levelOf_22 rfl (skT_55 hS) (skL_55 hS) o4 ?_
  obtain ⟨o5, K⟩ := K
  refine mw_iastK (pc' := 24) dX12_levelOf_23 rfl (skT_68 hS) (skL_68 hS) o5 hS (fun h6 eh6 hS => ?_)
  replace K := K h6 eh6
  refine mw_aload_n (pc' := 25) dX12_levelOf_24 rfl rfl ?_
  refine mw_getR (pc' := 28) dX12_levelOf_25 rfl flX12_72 rfl (skT_47 hS) ?_
  rw [skR_47_32 hS]
  refine mw_iconst (pc' := 29) (v := 2) dX12_levelOf_28 rfl (by decide) ?_
  refine mw_iload_n (pc' := 30) dX12_levelOf_29 rfl rfl ?_
  obtain ⟨o7, K⟩ := K
  refine mw_iastK (pc' := 31) dX12_levelOf_30 rfl (skT_68 hS) (skL_68 hS) o7 hS (fun h8 eh8 hS => ?_)
  replace K := K h8 eh8
  refine mw_aload_n (pc' := 32) dX12_levelOf_31 rfl rfl ?_
  refine mw_getR (pc' := 35) dX12_levelOf_32 rfl flX12_72 rfl (skT_47 hS) ?_
  rw [skR_47_32 hS]
  refine mw_iconst (pc' := 36) (v := 3) dX12_levelOf_35 rfl (by decide) ?_
  refine mw_iload (pc' := 38) dX12_levelOf_36 rfl rfl ?_
  obtain ⟨o9, K⟩ := K
  refine mw_iastK (pc' := 39) dX12_levelOf_38 rfl (skT_68 hS) (skL_68 hS) o9 hS (fun h10 eh10 hS => ?_)
  replace K := K h10 eh10
  refine mw_aload_n (pc' := 40) dX12_levelOf_39 rfl rfl ?_
  refine mw_getR (pc' := 43) dX12_levelOf_40 rfl flX12_72 rfl (skT_47 hS) ?_
  rw [skR_47_32 hS]
  refine mw_iconst (pc' := 44) (v := 4) dX12_levelOf_43 rfl (by decide) ?_
  refine mw_iload (pc' := 46) dX12_levelOf_44 rfl rfl ?_
  obtain ⟨o11, K⟩ := K
  refine mw_iastK (pc' := 47) dX12_levelOf_46 rfl (skT_68 hS) (skL_68 hS) o11 hS (fun h12 eh12 hS => ?_)
  replace K := K h12 eh12
  refine mw_aload_n (pc' := 48) dX12_levelOf_47 rfl rfl ?_
  refine mw_getR (pc' := 51) dX12_levelOf_48 rfl flX12_72 rfl (skT_47 hS) ?_
  rw [skR_47_32 hS]
  refine mw_iconst (pc' := 52) (v := 5) dX12_levelOf_51 rfl (by decide) ?_
  refine mw_aload_n (pc' := 53) dX12_levelOf_52 rfl rfl ?_
  refine mw_getR (pc' := 56) dX12_levelOf_53 rfl flX12_26 rfl (skT_47 hS) ?_
  rw [skR_47_7 hS]
  refine mw_iload_n (pc' := 57) dX12_levelOf_56 rfl rfl ?_
  obtain ⟨o13, K⟩ := K
  refine mw_ialdL (pc' := 58) dX12_levelOf_57 rfl (skT_53 hS) (skL_53 hS) o13 ?_
  refine mw_iload_n (pc' := 59) dX12_levelOf_58 rfl rfl ?_
  refine mw_isub (pc' := 60) dX12_levelOf_59 rfl ?_
  refine mw_callS (pc' := 63) (b' := (0, 0)) (b1 := b) (av := [.inl ((mI h12 53 v2.toNatClampNeg) - v3)]) (rest := [.inl 5, .inr (some 68)]) dX12_levelOf_60 rfl lkX12_320 rfl rfl (Nat.le_of_ble_eq_true rfl) ⟨Nat.le_of_eq (Nat.zero_add _), Nat.le_of_eq (Nat.zero_add _)⟩ ?_
  refine pX12_size ?_
  refine mw_aload_n (pc' := 64) dX12_levelOf_63 rfl rfl ?_
  refine mw_getR (pc' := 67) dX12_levelOf_64 rfl flX12_29 rfl (skT_47 hS) ?_
  rw [skR_47_8 hS]
  refine mw_iload_n (pc' := 68) dX12_levelOf_67 rfl rfl ?_
  obtain ⟨o14, K⟩ := K
  refine mw_ialdL (pc' := 69) dX12_levelOf_68 rfl (skT_54 hS) (skL_54 hS) o14 ?_
  refine mw_iload (pc' := 71) dX12_levelOf_69 rfl rfl ?_
  refine mw_isub (pc' := 72) dX12_levelOf_71 rfl ?_
  refine mw_callS (pc' := 75) (b' := (0, 0)) (b1 := b) (av := [.inl ((mI h12 54 v2.toNatClampNeg) - v4)]) (rest := [.inl (f_X12_size ((mI h12 53 v2.toNatClampNeg) - v3)), .inl 5, .inr (some 68)]) dX12_levelOf_72 rfl lkX12_320 rfl rfl (Nat.le_of_ble_eq_true rfl) ⟨Nat.le_of_eq (Nat.zero_add _), Nat.le_of_eq (Nat.zero_add _)⟩ ?_
  refine pX12_size ?_
  refine mw_iadd (pc' := 76) dX12_levelOf_75 rfl ?_
  obtain ⟨o15, K⟩ := K
  refine mw_iastK (pc' := 77) dX12_levelOf_76 rfl (skT_68 hS) (skL_68 hS) o15 hS (fun h16 eh16 hS => ?_)
  replace K := K h16 eh16
  refine mw_aload_n (pc' := 78) dX12_levelOf_77 rfl rfl ?_
  refine mw_getR (pc' := 81) dX12_levelOf_78 rfl flX12_72 rfl (skT_47 hS) ?_
  rw [skR_47_32 hS]
  refine mw_bipush (pc' := 83) (v := 6) dX12_levelOf_81 rfl (by decide) ?_
  refine mw_aload_n (pc' := 84) dX12_levelOf_83 rfl rfl ?_
  refine mw_getR (pc' := 87) dX12_levelOf_84 rfl flX12_29 rfl (skT_47 hS) ?_
  rw [skR_47_8 hS]
  refine mw_iload_n (pc' := 88) dX12_levelOf_87 rfl rfl ?_
  obtain ⟨o17, K⟩ := K
  refine mw_ialdL (pc' := 89) dX12_levelOf_88 rfl (skT_54 hS) (skL_54 hS) o17 ?_
  refine mw_iload (pc' := 91) dX12_levelOf_89 rfl rfl ?_
  refine mw_isub (pc' := 92) dX12_levelOf_91 rfl ?_
  obtain ⟨o18, K⟩ := K
  refine mw_iastK (pc' := 93) dX12_levelOf_92 rfl (skT_68 hS) (skL_68 hS) o18 hS (fun h19 eh19 hS => ?_)
  replace K := K h19 eh19
  refine mw_aload_n (pc' := 94) dX12_levelOf_93 rfl rfl ?_
  refine mw_getR (pc' := 97) dX12_levelOf_94 rfl flX12_72 rfl (skT_47 hS) ?_
  rw [skR_47_32 hS]
  refine mw_bipush (pc' := 99) (v := 7) dX12_levelOf_97 rfl (by decide) ?_
  refine mw_aload_n (pc' := 100) dX12_levelOf_99 rfl rfl ?_
  refine mw_getR (pc' := 103) dX12_levelOf_100 rfl flX12_26 rfl (skT_47 hS) ?_
  rw [skR_47_7 hS]
  refine mw_iload_n (pc' := 104) dX12_levelOf_103 rfl rfl ?_
  obtain ⟨o20, K⟩ := K
  refine mw_ialdL (pc' := 105) dX12_levelOf_104 rfl (skT_53 hS) (skL_53 hS) o20 ?_
  refine mw_iload_n (pc' := 106) dX12_levelOf_105 rfl rfl ?_
  refine mw_isub (pc' := 107) dX12_levelOf_106 rfl ?_
  obtain ⟨o21, K⟩ := K
  refine mw_iastK (pc' := 108) dX12_levelOf_107 rfl (skT_68 hS) (skL_68 hS) o21 hS (fun h22 eh22 hS => ?_)
  replace K := K h22 eh22
  refine mw_aload_n (pc' := 109) dX12_levelOf_108 rfl rfl ?_
  refine mw_getR (pc' := 112) dX12_levelOf_109 rfl flX12_72 rfl (skT_47 hS) ?_
  rw [skR_47_32 hS]
  refine mw_bipush (pc' := 114) (v := 8) dX12_levelOf_112 rfl (by decide) ?_
  refine mw_aload_n (pc' := 115) dX12_levelOf_114 rfl rfl ?_
  refine mw_iload_n (pc' := 116) dX12_levelOf_115 rfl rfl ?_
  refine mw_iload_n (pc' := 117) dX12_levelOf_116 rfl rfl ?_
  refine mw_iload (pc' := 119) dX12_levelOf_117 rfl rfl ?_
  refine mw_aload_n (pc' := 120) dX12_levelOf_119 rfl rfl ?_
  refine mw_getR (pc' := 123) dX12_levelOf_120 rfl flX12_26 rfl (skT_47 hS) ?_
  rw [skR_47_7 hS]
  refine mw_iload_n (pc' := 124) dX12_levelOf_123 rfl rfl ?_
  obtain ⟨o23, K⟩ := K
  refine mw_ialdL (pc' := 125) dX12_levelOf_124 rfl (skT_53 hS) (skL_53 hS) o23 ?_
  refine mw_aload_n (pc' := 126) dX12_levelOf_125 rfl rfl ?_
  refine mw_getR (pc' := 129) dX12_levelOf_126 rfl flX12_29 rfl (skT_47 hS) ?_
  rw [skR_47_8 hS]
  refine mw_iload_n (pc' := 130) dX12_levelOf_129 rfl rfl ?_
  obtain ⟨o24, K⟩ := K
  refine mw_ialdL (pc' := 131) dX12_levelOf_130 rfl (skT_54 hS) (skL_54 hS) o24 ?_
  refine mw_callV (pc' := 134) (b' := (0, 0)) (b1 := b) (av := [.inl v1, .inl v3, .inl v4, .inl (mI h22 53 v2.toNatClampNeg), .inl (mI h22 54 v2.toNatClampNeg)]) (rest := [.inl 8, .inr (some 68)]) dX12_levelOf_131 rfl lkX12_323 rfl rfl (Nat.le_of_ble_eq_true rfl) ⟨Nat.le_of_eq (Nat.zero_add _), Nat.le_of_eq (Nat.zero_add _)⟩ (skT_47 hS) ?_
  refine mC_mono (fun r h25 hr => ?_) K
  obtain ⟨x26, rfl, hS, K⟩ := hr
  show mW _ _ _ _ _ _ [.inl x26, .inl 8, .inr (some 68)] _ _
  obtain ⟨o27, K⟩ := K
  refine mw_iastK (pc' := 135) dX12_levelOf_134 rfl (skT_68 hS) (skL_68 hS) o27 hS (fun h28 eh28 hS => ?_)
  replace K := K h28 eh28
  refine mw_iconst (pc' := 136) (v := 0) dX12_levelOf_135 rfl (by decide) ?_
  refine mw_istore (pc' := 138) dX12_levelOf_136 rfl (by decide) ?_
  show mW _ _ _ _ _ [some (.inr (some 47)), some (.inl v1), some (.inl v2), some (.inl v3), some (.inl v4), some (.inl v5), some (.inl v6), some (.inl 0), none] _ _ _
  refine mw_weak (ls' := [some (.inr (some 47)), none, none, none, none, none, none, some (.inl 0), none]) ?_ ?_
  · intro i v hv; match i, hv with
    | 0, hv => exact hv
    | 1, hv => cases hv
    | 2, hv => cases hv
    | 3, hv => cases hv
    | 4, hv => cases hv
    | 5, hv => cases hv
    | 6, hv => cases hv
    | 7, hv => exact hv
    | 8, hv => cases hv
    | n + 9, hv => cases hv
  exact K

set_option maxRecDepth 100000 in
set_option maxHeartbeats 4000000 in
theorem qX12_levelOf_138 {G : mG} {d : Nat} {b : Nat × Nat} {h : mH} {Q : Option mV → mH → Prop} (v7 : Int32) (hS : mSk h)
    (K : (((mI h 47 21) ≤ v7 → Q (some (.inl 0)) h) ∧ (¬ ((mI h 47 21) ≤ v7) → vp_in v7 12 ∧ vp_in v7 12 ∧ mC G kX12_comesTo (d + 1) (0, 0) [.inr (some 47), .inl (mI h 65 v7.toNatClampNeg), .inl (mI h 66 v7.toNatClampNeg)] h (fun r h3 => ∃ x4, r = some (.inl x4) ∧ mSk h3 ∧ ((x4 = 1 → vp_in v7 12 ∧ vp_in v7 12 ∧ mC G kX12_comesTo (d + 1) (0, 0) [.inr (some 47), .inl (mI h3 64 v7.toNatClampNeg), .inl (mI h3 65 v7.toNatClampNeg)] h3 (fun r h7 => ∃ x8, r = some (.inl x8) ∧ mSk h7 ∧ ∀ w9 : Int32, w9 = (if 0 ≤ x8 then (if x8 ≤ 99 then x8 else 99) else 0) → Q (some (.inl w9)) h7)) ∧ (¬ x4 = 1 → mW G kX12_levelOf (d + 2) b 138 [some (.inr (some 47)), none, none, none, none, none, none, some (.inl (v7 + 1)), none] [] h3 Q)))))) : mW G kX12_levelOf (d + 2) b 138 [some (.inr (some 47)), none, none, none, none, none, none, some (.inl v7), none] [] h Q := by
  refine mw_iload (pc' := 140) dX12_levelOf_138 rfl rfl ?_
  refine mw_aload_n (pc' := 141) dX12_levelOf_140 rfl rfl ?_
  refine mw_getI (pc' := 144) dX12_levelOf_141 rfl flX12_313 rfl (skT_47 hS) ?_
  refine mw_icmp_ge (pc' := 147) (tgt := 222) dX12_levelOf_144 rfl (by decide) (fun c14 => ?_) (fun c14 => ?_)
  · replace K := K.1 c14
    refine mw_iconst (pc' := 223) (v := 0) dX12_levelOf_222 rfl (by decide) ?_
    exact mw_iret dX12_levelOf_223 rfl rfl K
  · replace K := K.2 c14
    refine mw_aload_n (pc' := 148) dX12_levelOf_147 rfl rfl ?_
    refine mw_aload_n (pc' := 149) dX12_levelOf_148 rfl rfl ?_
    refine mw_getR (pc' := 152) dX12_levelOf_149 rfl flX12_63 rfl (skT_47 hS) ?_
    rw [skR_47_29 hS]
    refine mw_iload (pc' := 154) dX12_levelOf_152 rfl rfl ?_
    obtain ⟨o1, K⟩ := K
    refine mw_ialdL (pc' := 155) dX12_levelOf_154 rfl (skT_65 hS) (skL_65 hS) o1 ?_
    refine mw_aload_n (pc' := 156) dX12_levelOf_155 rfl rfl ?_
    refine mw_getR (pc' := 159) dX12_levelOf_156 rfl flX12_66 rfl (skT_47 hS) ?_
    rw [skR_47_30 hS]
    refine mw_iload (pc' := 161) dX12_levelOf_159 rfl rfl ?_
    obtain ⟨o2, K⟩ := K
    refine mw_ialdL (pc' := 162) dX12_levelOf_161 rfl (skT_66 hS) (skL_66 hS) o2 ?_
    refine mw_callV (pc' := 165) (b' := (0, 0)) (b1 := b) (av := [.inl (mI h 65 v7.toNatClampNeg), .inl (mI h 66 v7.toNatClampNeg)]) (rest := []) dX12_levelOf_162 rfl lkX12_327 rfl rfl (Nat.le_of_ble_eq_true rfl) ⟨Nat.le_of_eq (Nat.zero_add _), Nat.le_of_eq (Nat.zero_add _)⟩ (skT_47 hS) ?_
    refine mC_mono (fun r h3 hr => ?_) K
    obtain ⟨x4, rfl, hS, K⟩ := hr
    show mW _ _ _ _ _ _ [.inl x4] _ _
    refine mw_iconst (pc' := 166) (v := 1) dX12_levelOf_165 rfl (by decide) ?_
    refine mw_icmp_eq (pc' := 169) (tgt := 172) dX12_levelOf_166 rfl (by decide) (fun c13 => ?_) (fun c13 => ?_)
    · replace K := K.1 c13
      refine mw_aload_n (pc' := 173) dX12_levelOf_172 rfl rfl ?_
      refine mw_aload_n (pc' := 174) dX12_levelOf_173 rfl rfl ?_
      refine mw_getR (pc' := 177) dX12_levelOf_174 rfl flX12_60 rfl (skT_47 hS) ?_
      rw [skR_47_28 hS]
      refine mw_iload (pc' := 179) dX12_levelOf_177 rfl rfl ?_
      obtain ⟨o5, K⟩ := K
      refine mw_ialdL (pc' := 180) dX12_levelOf_179 rfl (skT_64 hS) (skL_64 hS) o5 ?_
      refine mw_aload_n (pc' := 181) dX12_levelOf_180 rfl rfl ?_
      refine mw_getR (pc' := 184) dX12_levelOf_181 rfl flX12_63 rfl (skT_47 hS) ?_
      rw [skR_47_29 hS]
      refine mw_iload (pc' := 186) dX12_levelOf_184 rfl rfl ?_
      obtain ⟨o6, K⟩ := K
      refine mw_ialdL (pc' := 187) dX12_levelOf_186 rfl (skT_65 hS) (skL_65 hS) o6 ?_
      refine mw_callV (pc' := 190) (b' := (0, 0)) (b1 := b) (av := [.inl (mI h3 64 v7.toNatClampNeg), .inl (mI h3 65 v7.toNatClampNeg)]) (rest := []) dX12_levelOf_187 rfl lkX12_327 rfl rfl (Nat.le_of_ble_eq_true rfl) ⟨Nat.le_of_eq (Nat.zero_add _), Nat.le_of_eq (Nat.zero_add _)⟩ (skT_47 hS) ?_
      refine mC_mono (fun r h7 hr => ?_) K
      obtain ⟨x8, rfl, hS, K⟩ := hr
      show mW _ _ _ _ _ _ [.inl x8] _ _
      refine mw_istore (pc' := 192) dX12_levelOf_190 rfl (by decide) ?_
      show mW _ _ _ _ _ [some (.inr (some 47)), none, none, none, none, none, none, some (.inl v7), some (.inl x8)] _ _ _
      refine mw_iload (pc' := 194) dX12_levelOf_192 rfl rfl ?_
      have J10 : ∀ w9 : Int32, w9 = (if 0 ≤ x8 then (if x8 ≤ 99 then x8 else 99) else 0) → mW G kX12_levelOf (d + 2) b 215 [some (.inr (some 47)), none, none, none, none, none, none, some (.inl v7), some (.inl x8)] ([.inl w9]) h7 Q := by
        intro w9 ew9
        replace K := K w9 ew9
        exact mw_iret dX12_levelOf_215 rfl rfl K
      refine mw_if_ge (pc' := 197) (tgt := 201) dX12_levelOf_194 rfl (by decide) (fun c11 => ?_) (fun c11 => ?_)
      · refine mw_iload (pc' := 203) dX12_levelOf_201 rfl rfl ?_
        refine mw_bipush (pc' := 205) (v := 99) dX12_levelOf_203 rfl (by decide) ?_
        refine mw_icmp_le (pc' := 208) (tgt := 213) dX12_levelOf_205 rfl (by decide) (fun c12 => ?_) (fun c12 => ?_)
        · refine mw_iload (pc' := 215) dX12_levelOf_213 rfl rfl ?_
          exact J10 _ (by rw [if_pos c11, if_pos c12])
        · refine mw_bipush (pc' := 210) (v := 99) dX12_levelOf_208 rfl (by decide) ?_
          refine mw_goto (tgt := 215) dX12_levelOf_210 (by decide) ?_
          exact J10 _ (by rw [if_pos c11, if_neg c12])
      · refine mw_iconst (pc' := 198) (v := 0) dX12_levelOf_197 rfl (by decide) ?_
        refine mw_goto (tgt := 215) dX12_levelOf_198 (by decide) ?_
        exact J10 _ (by rw [if_neg c11])
    · replace K := K.2 c13
      refine mw_goto (tgt := 216) dX12_levelOf_169 (by decide) ?_
      refine mw_iinc (pc' := 219) (v := v7 + 1) dX12_levelOf_216 rfl (by decide) rfl rfl ?_
      show mW _ _ _ _ _ [some (.inr (some 47)), none, none, none, none, none, none, some (.inl (v7 + 1)), none] _ _ _
      refine mw_goto (tgt := 138) dX12_levelOf_219 (by decide) ?_
      exact K

set_option maxRecDepth 100000 in
set_option maxHeartbeats 4000000 in
theorem qX12_level {G : mG} {d : Nat} {b : Nat × Nat} {h : mH} {Q : Option mV → mH → Prop} (v1 : Int32) (v2 : Int32) (v3 : Int32) (v4 : Int32) (v5 : Int32) (v6 : Int32) (hS : mSk h)
    (K : mC G kX12_isCoast (d + 2) (0, 0) [.inr (some 47), .inl v1] h (fun r h1 => ∃ x2, r = some (.inl x2) ∧ mSk h1 ∧ ((x2 = 0 → Q (some (.inl (-1))) h1) ∧ (¬ x2 = 0 → mC G kX12_isSounder (d + 2) (0, 0) [.inr (some 47), .inl v2] h1 (fun r h3 => ∃ x4, r = some (.inl x4) ∧ mSk h3 ∧ ((x4 = 0 → Q (some (.inl (-1))) h3) ∧ (¬ x4 = 0 → (((f_X12_isCell v3 v4) = 0 → Q (some (.inl (-1))) h3) ∧ (¬ (f_X12_isCell v3 v4) = 0 → (((f_X12_isAir v5 v6) = 0 → Q (some (.inl (-1))) h3) ∧ (¬ (f_X12_isAir v5 v6) = 0 → mC G kX12_levelOf (d + 2) (0, 0) [.inr (some 47), .inl v1, .inl v2, .inl v3, .inl v4, .inl v5, .inl v6] h3 (fun r h5 => ∃ x6, r = some (.inl x6) ∧ mSk h5 ∧ Q (some (.inl x6)) h5)))))))))))) : mC G kX12_level (d + 3) b [.inr (some 47), .inl v1, .inl v2, .inl v3, .inl v4, .inl v5, .inl v6] h Q := by
  refine mC_in rfl (Nat.le_of_ble_eq_true rfl) ?_
  show mW _ _ _ _ _ [some (.inr (some 47)), some (.inl v1), some (.inl v2), some (.inl v3), some (.inl v4), some (.inl v5), some (.inl v6)] _ _ _
  refine mw_aload_n (pc' := 1) dX12_level_0 rfl rfl ?_
  refine mw_iload_n (pc' := 2) dX12_level_1 rfl rfl ?_
  refine mw_callV (pc' := 5) (b' := (0, 0)) (b1 := b) (av := [.inl v1]) (rest := []) dX12_level_2 rfl lkX12_187 rfl rfl (Nat.le_of_ble_eq_true rfl) ⟨Nat.le_of_eq (Nat.zero_add _), Nat.le_of_eq (Nat.zero_add _)⟩ (skT_47 hS) ?_
  refine mC_mono (fun r h1 hr => ?_) K
  obtain ⟨x2, rfl, hS, K⟩ := hr
  show mW _ _ _ _ _ _ [.inl x2] _ _
  refine mw_if_eq (pc' := 8) (tgt := 51) dX12_level_5 rfl (by decide) (fun c10 => ?_) (fun c10 => ?_)
  · replace K := K.1 c10
    refine mw_iconst (pc' := 52) (v := (-1)) dX12_level_51 rfl (by decide) ?_
    exact mw_iret dX12_level_52 rfl rfl K
  · replace K := K.2 c10
    refine mw_aload_n (pc' := 9) dX12_level_8 rfl rfl ?_
    refine mw_iload_n (pc' := 10) dX12_level_9 rfl rfl ?_
    refine mw_callV (pc' := 13) (b' := (0, 0)) (b1 := b) (av := [.inl v2]) (rest := []) dX12_level_10 rfl lkX12_330 rfl rfl (Nat.le_of_ble_eq_true rfl) ⟨Nat.le_of_eq (Nat.zero_add _), Nat.le_of_eq (Nat.zero_add _)⟩ (skT_47 hS) ?_
    refine mC_mono (fun r h3 hr => ?_) K
    obtain ⟨x4, rfl, hS, K⟩ := hr
    show mW _ _ _ _ _ _ [.inl x4] _ _
    refine mw_if_eq (pc' := 16) (tgt := 51) dX12_level_13 rfl (by decide) (fun c9 => ?_) (fun c9 => ?_)
    · replace K := K.1 c9
      refine mw_iconst (pc' := 52) (v := (-1)) dX12_level_51 rfl (by decide) ?_
      exact mw_iret dX12_level_52 rfl rfl K
    · replace K := K.2 c9
      refine mw_iload_n (pc' := 17) dX12_level_16 rfl rfl ?_
      refine mw_iload (pc' := 19) dX12_level_17 rfl rfl ?_
      refine mw_callS (pc' := 22) (b' := (0, 0)) (b1 := b) (av := [.inl v3, .inl v4]) (rest := []) dX12_level_19 rfl lkX12_190 rfl rfl (Nat.le_of_ble_eq_true rfl) ⟨Nat.le_of_eq (Nat.zero_add _), Nat.le_of_eq (Nat.zero_add _)⟩ ?_
      refine pX12_isCell ?_
      refine mw_if_eq (pc' := 25) (tgt := 51) dX12_level_22 rfl (by decide) (fun c8 => ?_) (fun c8 => ?_)
      · replace K := K.1 c8
        refine mw_iconst (pc' := 52) (v := (-1)) dX12_level_51 rfl (by decide) ?_
        exact mw_iret dX12_level_52 rfl rfl K
      · replace K := K.2 c8
        refine mw_iload (pc' := 27) dX12_level_25 rfl rfl ?_
        refine mw_iload (pc' := 29) dX12_level_27 rfl rfl ?_
        refine mw_callS (pc' := 32) (b' := (0, 0)) (b1 := b) (av := [.inl v5, .inl v6]) (rest := []) dX12_level_29 rfl lkX12_333 rfl rfl (Nat.le_of_ble_eq_true rfl) ⟨Nat.le_of_eq (Nat.zero_add _), Nat.le_of_eq (Nat.zero_add _)⟩ ?_
        refine pX12_isAir ?_
        refine mw_if_eq (pc' := 35) (tgt := 51) dX12_level_32 rfl (by decide) (fun c7 => ?_) (fun c7 => ?_)
        · replace K := K.1 c7
          refine mw_iconst (pc' := 52) (v := (-1)) dX12_level_51 rfl (by decide) ?_
          exact mw_iret dX12_level_52 rfl rfl K
        · replace K := K.2 c7
          refine mw_aload_n (pc' := 36) dX12_level_35 rfl rfl ?_
          refine mw_iload_n (pc' := 37) dX12_level_36 rfl rfl ?_
          refine mw_iload_n (pc' := 38) dX12_level_37 rfl rfl ?_
          refine mw_iload_n (pc' := 39) dX12_level_38 rfl rfl ?_
          refine mw_iload (pc' := 41) dX12_level_39 rfl rfl ?_
          refine mw_iload (pc' := 43) dX12_level_41 rfl rfl ?_
          refine mw_iload (pc' := 45) dX12_level_43 rfl rfl ?_
          refine mw_callV (pc' := 48) (b' := (0, 0)) (b1 := b) (av := [.inl v1, .inl v2, .inl v3, .inl v4, .inl v5, .inl v6]) (rest := []) dX12_level_45 rfl lkX12_336 rfl rfl (Nat.le_of_ble_eq_true rfl) ⟨Nat.le_of_eq (Nat.zero_add _), Nat.le_of_eq (Nat.zero_add _)⟩ (skT_47 hS) ?_
          refine mC_mono (fun r h5 hr => ?_) K
          obtain ⟨x6, rfl, hS, K⟩ := hr
          show mW _ _ _ _ _ _ [.inl x6] _ _
          refine mw_goto (tgt := 52) dX12_level_48 (by decide) ?_
          exact mw_iret dX12_level_52 rfl rfl K

set_option maxRecDepth 100000 in
set_option maxHeartbeats 4000000 in
theorem qX12_line {G : mG} {d : Nat} {b : Nat × Nat} {h : mH} {Q : Option mV → mH → Prop} (v1 : Int32) (v2 : Int32) (v3 : Int32) (v4 : Int32) (v5 : Int32) (hS : mSk h)
    (K : (((f_X12_in v1 (-9) 9) = 0 → Q (some (.inl (-1))) h) ∧ (¬ (f_X12_in v1 (-9) 9) = 0 → (((f_X12_in v2 (-9) 9) = 0 → Q (some (.inl (-1))) h) ∧ (¬ (f_X12_in v2 (-9) 9) = 0 → (((f_X12_in v3 0 3) = 0 → Q (some (.inl (-1))) h) ∧ (¬ (f_X12_in v3 0 3) = 0 → (((f_X12_isAir v4 v5) = 0 → Q (some (.inl (-1))) h) ∧ (¬ (f_X12_isAir v4 v5) = 0 → ((¬ (mI h 47 33) = 12 → vp_in (mI h 47 33) 12 ∧ ∀ h2, h2 = mSI h 69 (mI h 47 33).toNatClampNeg v1 → vp_in (mI h2 47 33) 12 ∧ ∀ h4, h4 = mSI h2 70 (mI h2 47 33).toNatClampNeg v2 → vp_in (mI h4 47 33) 12 ∧ ∀ h6, h6 = mSI h4 71 (mI h4 47 33).toNatClampNeg v3 → vp_in (mI h6 47 33) 12 ∧ ∀ h8, h8 = mSI h6 72 (mI h6 47 33).toNatClampNeg v4 → vp_in (mI h8 47 33) 12 ∧ ∀ h10, h10 = mSI h8 73 (mI h8 47 33).toNatClampNeg v5 → vp_in (mI h10 47 33) 12 ∧ ∀ h12, h12 = mSI h10 74 (mI h10 47 33).toNatClampNeg 0 → ∀ h13, h13 = mSI h12 47 33 ((mI h12 47 33) + 1) → Q (some (.inl ((mI h13 47 33) - 1))) h13) ∧ ((mI h 47 33) = 12 → Q (some (.inl (-1))) h))))))))))) : mC G kX12_line (d + 1) b [.inr (some 47), .inl v1, .inl v2, .inl v3, .inl v4, .inl v5] h Q := by
  refine mC_in rfl (Nat.le_of_ble_eq_true rfl) ?_
  show mW _ _ _ _ _ [some (.inr (some 47)), some (.inl v1), some (.inl v2), some (.inl v3), some (.inl v4), some (.inl v5)] _ _ _
  refine mw_iload_n (pc' := 1) dX12_line_0 rfl rfl ?_
  refine mw_bipush (pc' := 3) (v := (-9)) dX12_line_1 rfl (by decide) ?_
  refine mw_bipush (pc' := 5) (v := 9) dX12_line_3 rfl (by decide) ?_
  refine mw_callS (pc' := 8) (b' := (0, 0)) (b1 := b) (av := [.inl v1, .inl (-9), .inl 9]) (rest := []) dX12_line_5 rfl lkX12_173 rfl rfl (Nat.le_of_ble_eq_true rfl) ⟨Nat.le_of_eq (Nat.zero_add _), Nat.le_of_eq (Nat.zero_add _)⟩ ?_
  refine pX12_in ?_
  refine mw_if_eq (pc' := 11) (tgt := 50) dX12_line_8 rfl (by decide) (fun c18 => ?_) (fun c18 => ?_)
  · replace K := K.1 c18
    refine mw_iconst (pc' := 51) (v := (-1)) dX12_line_50 rfl (by decide) ?_
    exact mw_iret dX12_line_51 rfl rfl K
  · replace K := K.2 c18
    refine mw_iload_n (pc' := 12) dX12_line_11 rfl rfl ?_
    refine mw_bipush (pc' := 14) (v := (-9)) dX12_line_12 rfl (by decide) ?_
    refine mw_bipush (pc' := 16) (v := 9) dX12_line_14 rfl (by decide) ?_
    refine mw_callS (pc' := 19) (b' := (0, 0)) (b1 := b) (av := [.inl v2, .inl (-9), .inl 9]) (rest := []) dX12_line_16 rfl lkX12_173 rfl rfl (Nat.le_of_ble_eq_true rfl) ⟨Nat.le_of_eq (Nat.zero_add _), Nat.le_of_eq (Nat.zero_add _)⟩ ?_
    refine pX12_in ?_
    refine mw_if_eq (pc' := 22) (tgt := 50) dX12_line_19 rfl (by decide) (fun c17 => ?_) (fun c17 => ?_)
    · replace K := K.1 c17
      refine mw_iconst (pc' := 51) (v := (-1)) dX12_line_50 rfl (by decide) ?_
      exact mw_iret dX12_line_51 rfl rfl K
    · replace K := K.2 c17
      refine mw_iload_n (pc' := 23) dX12_line_22 rfl rfl ?_
      refine mw_iconst (pc' := 24) (v := 0) dX12_line_23 rfl (by decide) ?_
      refine mw_iconst (pc' := 25) (v := 3) dX12_line_24 rfl (by decide) ?_
      refine mw_callS (pc' := 28) (b' := (0, 0)) (b1 := b) (av := [.inl v3, .inl 0, .inl 3]) (rest := []) dX12_line_25 rfl lkX12_173 rfl rfl (Nat.le_of_ble_eq_true rfl) ⟨Nat.le_of_eq (Nat.zero_add _), Nat.le_of_eq (Nat.zero_add _)⟩ ?_
      refine pX12_in ?_
      refine mw_if_eq (pc' := 31) (tgt := 50) dX12_line_28 rfl (by decide) (fun c16 => ?_) (fun c16 => ?_)
      · replace K := K.1 c16
        refine mw_iconst (pc' := 51) (v := (-1)) dX12_line_50 rfl (by decide) ?_
        exact mw_iret dX12_line_51 rfl rfl K
      · replace K := K.2 c16
        refine mw_iload (pc' := 33) dX12_line_31 rfl rfl ?_
        refine mw_iload (pc' := 35) dX12_line_33 rfl rfl ?_
        refine mw_callS (pc' := 38) (b' := (0, 0)) (b1 := b) (av := [.inl v4, .inl v5]) (rest := []) dX12_line_35 rfl lkX12_333 rfl rfl (Nat.le_of_ble_eq_true rfl) ⟨Nat.le_of_eq (Nat.zero_add _), Nat.le_of_eq (Nat.zero_add _)⟩ ?_
        refine pX12_isAir ?_
        refine mw_if_eq (pc' := 41) (tgt := 50) dX12_line_38 rfl (by decide) (fun c15 => ?_) (fun c15 => ?_)
        · replace K := K.1 c15
          refine mw_iconst (pc' := 51) (v := (-1)) dX12_line_50 rfl (by decide) ?_
          exact mw_iret dX12_line_51 rfl rfl K
        · replace K := K.2 c15
          refine mw_aload_n (pc' := 42) dX12_line_41 rfl rfl ?_
          refine mw_getI (pc' := 45) dX12_line_42 rfl flX12_340 rfl (skT_47 hS) ?_
          refine mw_bipush (pc' := 47) (v := 12) dX12_line_45 rfl (by decide) ?_
          refine mw_icmp_ne (pc' := 50) (tgt := 52) dX12_line_47 rfl (by decide) (fun c14 => ?_) (fun c14 => ?_)
          · replace K := K.1 c14
            refine mw_aload_n (pc' := 53) dX12_line_52 rfl rfl ?_
            refine mw_getR (pc' := 56) dX12_line_53 rfl flX12_75 rfl (skT_47 hS) ?_
            rw [skR_47_39 hS]
            refine mw_aload_n (pc' := 57) dX12_line_56 rfl rfl ?_
            refine mw_getI (pc' := 60) dX12_line_57 rfl flX12_340 rfl (skT_47 hS) ?_
            refine mw_iload_n (pc' := 61) dX12_line_60 rfl rfl ?_
            obtain ⟨o1, K⟩ := K
            refine mw_iastK (pc' := 62) dX12_line_61 rfl (skT_69 hS) (skL_69 hS) o1 hS (fun h2 eh2 hS => ?_)
            replace K := K h2 eh2
            refine mw_aload_n (pc' := 63) dX12_line_62 rfl rfl ?_
            refine mw_getR (pc' := 66) dX12_line_63 rfl flX12_78 rfl (skT_47 hS) ?_
            rw [skR_47_40 hS]
            refine mw_aload_n (pc' := 67) dX12_line_66 rfl rfl ?_
            refine mw_getI (pc' := 70) dX12_line_67 rfl flX12_340 rfl (skT_47 hS) ?_
            refine mw_iload_n (pc' := 71) dX12_line_70 rfl rfl ?_
            obtain ⟨o3, K⟩ := K
            refine mw_iastK (pc' := 72) dX12_line_71 rfl (skT_70 hS) (skL_70 hS) o3 hS (fun h4 eh4 hS => ?_)
            replace K := K h4 eh4
            refine mw_aload_n (pc' := 73) dX12_line_72 rfl rfl ?_
            refine mw_getR (pc' := 76) dX12_line_73 rfl flX12_81 rfl (skT_47 hS) ?_
            rw [skR_47_41 hS]
            refine mw_aload_n (pc' := 77) dX12_line_76 rfl rfl ?_
            refine mw_getI (pc' := 80) dX12_line_77 rfl flX12_340 rfl (skT_47 hS) ?_
            refine mw_iload_n (pc' := 81) dX12_line_80 rfl rfl ?_
            obtain ⟨o5, K⟩ := K
            refine mw_iastK (pc' := 82) dX12_line_81 rfl (skT_71 hS) (skL_71 hS) o5 hS (fun h6 eh6 hS => ?_)
            replace K := K h6 eh6
            refine mw_aload_n (pc' := 83) dX12_line_82 rfl rfl ?_
            refine mw_getR (pc' := 86) dX12_line_83 rfl flX12_84 rfl (skT_47 hS) ?_
            rw [skR_47_42 hS]
            refine mw_aload_n (pc' := 87) dX12_line_86 rfl rfl ?_
            refine mw_getI (pc' := 90) dX12_line_87 rfl flX12_340 rfl (skT_47 hS) ?_
            refine mw_iload (pc' := 92) dX12_line_90 rfl rfl ?_
            obtain ⟨o7, K⟩ := K
            refine mw_iastK (pc' := 93) dX12_line_92 rfl (skT_72 hS) (skL_72 hS) o7 hS (fun h8 eh8 hS => ?_)
            replace K := K h8 eh8
            refine mw_aload_n (pc' := 94) dX12_line_93 rfl rfl ?_
            refine mw_getR (pc' := 97) dX12_line_94 rfl flX12_87 rfl (skT_47 hS) ?_
            rw [skR_47_43 hS]
            refine mw_aload_n (pc' := 98) dX12_line_97 rfl rfl ?_
            refine mw_getI (pc' := 101) dX12_line_98 rfl flX12_340 rfl (skT_47 hS) ?_
            refine mw_iload (pc' := 103) dX12_line_101 rfl rfl ?_
            obtain ⟨o9, K⟩ := K
            refine mw_iastK (pc' := 104) dX12_line_103 rfl (skT_73 hS) (skL_73 hS) o9 hS (fun h10 eh10 hS => ?_)
            replace K := K h10 eh10
            refine mw_aload_n (pc' := 105) dX12_line_104 rfl rfl ?_
            refine mw_getR (pc' := 108) dX12_line_105 rfl flX12_90 rfl (skT_47 hS) ?_
            rw [skR_47_44 hS]
            refine mw_aload_n (pc' := 109) dX12_line_108 rfl rfl ?_
            refine mw_getI (pc' := 112) dX12_line_109 rfl flX12_340 rfl (skT_47 hS) ?_
            refine mw_iconst (pc' := 113) (v := 0) dX12_line_112 rfl (by decide) ?_
            obtain ⟨o11, K⟩ := K
            refine mw_iastK (pc' := 114) dX12_line_113 rfl (skT_74 hS) (skL_74 hS) o11 hS (fun h12 eh12 hS => ?_)
            replace K := K h12 eh12
            refine mw_aload_n (pc' := 115) dX12_line_114 rfl rfl ?_
            refine mw_aload_n (pc' := 116) dX12_line_115 rfl rfl ?_
            refine mw_getI (pc' := 119) dX12_line_116 rfl flX12_340 rfl (skT_47 hS) ?_
            refine mw_iconst (pc' := 120) (v := 1) dX12_line_119 rfl (by decide) ?_
            refine mw_iadd (pc' := 121) dX12_line_120 rfl ?_
            refine mw_putIK (pc' := 124) dX12_line_121 rfl flX12_340 rfl (Or.inl rfl) ⟨rfl, rfl⟩ (skT_47 hS) hS (fun h13 eh13 hS => ?_)
            replace K := K h13 eh13
            refine mw_aload_n (pc' := 125) dX12_line_124 rfl rfl ?_
            refine mw_getI (pc' := 128) dX12_line_125 rfl flX12_340 rfl (skT_47 hS) ?_
            refine mw_iconst (pc' := 129) (v := 1) dX12_line_128 rfl (by decide) ?_
            refine mw_isub (pc' := 130) dX12_line_129 rfl ?_
            exact mw_iret dX12_line_130 rfl rfl K
          · replace K := K.2 c14
            refine mw_iconst (pc' := 51) (v := (-1)) dX12_line_50 rfl (by decide) ?_
            exact mw_iret dX12_line_51 rfl rfl K

set_option maxRecDepth 100000 in
set_option maxHeartbeats 4000000 in
theorem qX12_note {G : mG} {d : Nat} {b : Nat × Nat} {h : mH} {Q : Option mV → mH → Prop} (v1 : Int32) (v2 : Int32) (v3 : Int32) (hS : mSk h)
    (K : (((mI h 47 33) = 0 → Q (some (.inl (-1))) h) ∧ (¬ (mI h 47 33) = 0 → vp_in ((mI h 47 33) - 1) 12 ∧ ((¬ (mI h 74 ((mI h 47 33) - 1).toNatClampNeg) = 6 → vp_in ((mI h 47 33) - 1) 12 ∧ vp_in ((6 * ((mI h 47 33) - 1)) + (mI h 74 ((mI h 47 33) - 1).toNatClampNeg)) 72 ∧ ∀ h4, h4 = mSI h 75 ((6 * ((mI h 47 33) - 1)) + (mI h 74 ((mI h 47 33) - 1).toNatClampNeg)).toNatClampNeg v1 → vp_in ((6 * ((mI h 47 33) - 1)) + (mI h 74 ((mI h 47 33) - 1).toNatClampNeg)) 72 ∧ ∀ h6, h6 = mSI h4 76 ((6 * ((mI h 47 33) - 1)) + (mI h 74 ((mI h 47 33) - 1).toNatClampNeg)).toNatClampNeg v2 → vp_in ((6 * ((mI h 47 33) - 1)) + (mI h 74 ((mI h 47 33) - 1).toNatClampNeg)) 72 ∧ ∀ h8, h8 = mSI h6 77 ((6 * ((mI h 47 33) - 1)) + (mI h 74 ((mI h 47 33) - 1).toNatClampNeg)).toNatClampNeg v3 → vp_in ((mI h8 47 33) - 1) 12 ∧ vp_in ((mI h8 47 33) - 1) 12 ∧ ∀ h11, h11 = mSI h8 74 ((mI h8 47 33) - 1).toNatClampNeg ((mI h8 74 ((mI h8 47 33) - 1).toNatClampNeg) + 1) → vp_in ((mI h11 47 33) - 1) 12 ∧ Q (some (.inl (mI h11 74 ((mI h11 47 33) - 1).toNatClampNeg))) h11) ∧ ((mI h 74 ((mI h 47 33) - 1).toNatClampNeg) = 6 → Q (some (.inl (-1))) h))))) : mC G kX12_note d b [.inr (some 47), .inl v1, .inl v2, .inl v3] h Q := by
  refine mC_in rfl (Nat.le_of_ble_eq_true rfl) ?_
  show mW _ _ _ _ _ [some (.inr (some 47)), some (.inl v1), some (.inl v2), some (.inl v3), none] _ _ _
  refine mw_aload_n (pc' := 1) dX12_note_0 rfl rfl ?_
  refine mw_getI (pc' := 4) dX12_note_1 rfl flX12_340 rfl (skT_47 hS) ?_
  refine mw_if_eq (pc' := 7) (tgt := 23) dX12_note_4 rfl (by decide) (fun c14 => ?_) (fun c14 => ?_)
  · replace K := K.1 c14
    refine mw_iconst (pc' := 24) (v := (-1)) dX12_note_23 rfl (by decide) ?_
    exact mw_iret dX12_note_24 rfl rfl K
  · replace K := K.2 c14
    refine mw_aload_n (pc' := 8) dX12_note_7 rfl rfl ?_
    refine mw_getR (pc' := 11) dX12_note_8 rfl flX12_90 rfl (skT_47 hS) ?_
    rw [skR_47_44 hS]
    refine mw_aload_n (pc' := 12) dX12_note_11 rfl rfl ?_
    refine mw_getI (pc' := 15) dX12_note_12 rfl flX12_340 rfl (skT_47 hS) ?_
    refine mw_iconst (pc' := 16) (v := 1) dX12_note_15 rfl (by decide) ?_
    refine mw_isub (pc' := 17) dX12_note_16 rfl ?_
    obtain ⟨o1, K⟩ := K
    refine mw_ialdL (pc' := 18) dX12_note_17 rfl (skT_74 hS) (skL_74 hS) o1 ?_
    refine mw_bipush (pc' := 20) (v := 6) dX12_note_18 rfl (by decide) ?_
    refine mw_icmp_ne (pc' := 23) (tgt := 25) dX12_note_20 rfl (by decide) (fun c13 => ?_) (fun c13 => ?_)
    · replace K := K.1 c13
      refine mw_bipush (pc' := 27) (v := 6) dX12_note_25 rfl (by decide) ?_
      refine mw_aload_n (pc' := 28) dX12_note_27 rfl rfl ?_
      refine mw_getI (pc' := 31) dX12_note_28 rfl flX12_340 rfl (skT_47 hS) ?_
      refine mw_iconst (pc' := 32) (v := 1) dX12_note_31 rfl (by decide) ?_
      refine mw_isub (pc' := 33) dX12_note_32 rfl ?_
      refine mw_imul (pc' := 34) dX12_note_33 rfl ?_
      refine mw_aload_n (pc' := 35) dX12_note_34 rfl rfl ?_
      refine mw_getR (pc' := 38) dX12_note_35 rfl flX12_90 rfl (skT_47 hS) ?_
      rw [skR_47_44 hS]
      refine mw_aload_n (pc' := 39) dX12_note_38 rfl rfl ?_
      refine mw_getI (pc' := 42) dX12_note_39 rfl flX12_340 rfl (skT_47 hS) ?_
      refine mw_iconst (pc' := 43) (v := 1) dX12_note_42 rfl (by decide) ?_
      refine mw_isub (pc' := 44) dX12_note_43 rfl ?_
      obtain ⟨o2, K⟩ := K
      refine mw_ialdL (pc' := 45) dX12_note_44 rfl (skT_74 hS) (skL_74 hS) o2 ?_
      refine mw_iadd (pc' := 46) dX12_note_45 rfl ?_
      refine mw_istore (pc' := 48) dX12_note_46 rfl (by decide) ?_
      show mW _ _ _ _ _ [some (.inr (some 47)), some (.inl v1), some (.inl v2), some (.inl v3), some (.inl ((6 * ((mI h 47 33) - 1)) + (mI h 74 ((mI h 47 33) - 1).toNatClampNeg)))] _ _ _
      refine mw_aload_n (pc' := 49) dX12_note_48 rfl rfl ?_
      refine mw_getR (pc' := 52) dX12_note_49 rfl flX12_93 rfl (skT_47 hS) ?_
      rw [skR_47_45 hS]
      refine mw_iload (pc' := 54) dX12_note_52 rfl rfl ?_
      refine mw_iload_n (pc' := 55) dX12_note_54 rfl rfl ?_
      obtain ⟨o3, K⟩ := K
      refine mw_iastK (pc' := 56) dX12_note_55 rfl (skT_75 hS) (skL_75 hS) o3 hS (fun h4 eh4 hS => ?_)
      replace K := K h4 eh4
      refine mw_aload_n (pc' := 57) dX12_note_56 rfl rfl ?_
      refine mw_getR (pc' := 60) dX12_note_57 rfl flX12_96 rfl (skT_47 hS) ?_
      rw [skR_47_46 hS]
      refine mw_iload (pc' := 62) dX12_note_60 rfl rfl ?_
      refine mw_iload_n (pc' := 63) dX12_note_62 rfl rfl ?_
      obtain ⟨o5, K⟩ := K
      refine mw_iastK (pc' := 64) dX12_note_63 rfl (skT_76 hS) (skL_76 hS) o5 hS (fun h6 eh6 hS => ?_)
      replace K := K h6 eh6
      refine mw_aload_n (pc' := 65) dX12_note_64 rfl rfl ?_
      refine mw_getR (pc' := 68) dX12_note_65 rfl flX12_99 rfl (skT_47 hS) ?_
      rw [skR_47_47 hS]
      refine mw_iload (pc' := 70) dX12_note_68 rfl rfl ?_
      refine mw_iload_n (pc' := 71) dX12_note_70 rfl rfl ?_
      obtain ⟨o7, K⟩ := K
      refine mw_iastK (pc' := 72) dX12_note_71 rfl (skT_77 hS) (skL_77 hS) o7 hS (fun h8 eh8 hS => ?_)
      replace K := K h8 eh8
      refine mw_aload_n (pc' := 73) dX12_note_72 rfl rfl ?_
      refine mw_getR (pc' := 76) dX12_note_73 rfl flX12_90 rfl (skT_47 hS) ?_
      rw [skR_47_44 hS]
      refine mw_aload_n (pc' := 77) dX12_note_76 rfl rfl ?_
      refine mw_getI (pc' := 80) dX12_note_77 rfl flX12_340 rfl (skT_47 hS) ?_
      refine mw_iconst (pc' := 81) (v := 1) dX12_note_80 rfl (by decide) ?_
      refine mw_isub (pc' := 82) dX12_note_81 rfl ?_
      refine mw_aload_n (pc' := 83) dX12_note_82 rfl rfl ?_
      refine mw_getR (pc' := 86) dX12_note_83 rfl flX12_90 rfl (skT_47 hS) ?_
      rw [skR_47_44 hS]
      refine mw_aload_n (pc' := 87) dX12_note_86 rfl rfl ?_
      refine mw_getI (pc' := 90) dX12_note_87 rfl flX12_340 rfl (skT_47 hS) ?_
      refine mw_iconst (pc' := 91) (v := 1) dX12_note_90 rfl (by decide) ?_
      refine mw_isub (pc' := 92) dX12_note_91 rfl ?_
      obtain ⟨o9, K⟩ := K
      refine mw_ialdL (pc' := 93) dX12_note_92 rfl (skT_74 hS) (skL_74 hS) o9 ?_
      refine mw_iconst (pc' := 94) (v := 1) dX12_note_93 rfl (by decide) ?_
      refine mw_iadd (pc' := 95) dX12_note_94 rfl ?_
      obtain ⟨o10, K⟩ := K
      refine mw_iastK (pc' := 96) dX12_note_95 rfl (skT_74 hS) (skL_74 hS) o10 hS (fun h11 eh11 hS => ?_)
      replace K := K h11 eh11
      refine mw_aload_n (pc' := 97) dX12_note_96 rfl rfl ?_
      refine mw_getR (pc' := 100) dX12_note_97 rfl flX12_90 rfl (skT_47 hS) ?_
      rw [skR_47_44 hS]
      refine mw_aload_n (pc' := 101) dX12_note_100 rfl rfl ?_
      refine mw_getI (pc' := 104) dX12_note_101 rfl flX12_340 rfl (skT_47 hS) ?_
      refine mw_iconst (pc' := 105) (v := 1) dX12_note_104 rfl (by decide) ?_
      refine mw_isub (pc' := 106) dX12_note_105 rfl ?_
      obtain ⟨o12, K⟩ := K
      refine mw_ialdL (pc' := 107) dX12_note_106 rfl (skT_74 hS) (skL_74 hS) o12 ?_
      exact mw_iret dX12_note_107 rfl rfl K
    · replace K := K.2 c13
      refine mw_iconst (pc' := 24) (v := (-1)) dX12_note_23 rfl (by decide) ?_
      exact mw_iret dX12_note_24 rfl rfl K

set_option maxRecDepth 100000 in
set_option maxHeartbeats 4000000 in
theorem qX12_hears {G : mG} {d : Nat} {b : Nat × Nat} {h : mH} {Q : Option mV → mH → Prop} (v1 : Int32) (v2 : Int32) (v3 : Int32) (hS : mSk h)
    (K : mC G kX12_isSounder d (0, 0) [.inr (some 47), .inl v1] h (fun r h1 => ∃ x2, r = some (.inl x2) ∧ mSk h1 ∧ ((x2 = 0 → Q (some (.inl (-1))) h1) ∧ (¬ x2 = 0 → (((f_X12_in v2 0 99) = 0 → Q (some (.inl (-1))) h1) ∧ (¬ (f_X12_in v2 0 99) = 0 → (((f_X12_in v3 0 99) = 0 → Q (some (.inl (-1))) h1) ∧ (¬ (f_X12_in v3 0 99) = 0 → mC G kX12_note d (0, 0) [.inr (some 47), .inl v1, .inl v2, .inl v3] h1 (fun r h3 => ∃ x4, r = some (.inl x4) ∧ mSk h3 ∧ Q (some (.inl x4)) h3))))))))) : mC G kX12_hears (d + 1) b [.inr (some 47), .inl v1, .inl v2, .inl v3] h Q := by
  refine mC_in rfl (Nat.le_of_ble_eq_true rfl) ?_
  show mW _ _ _ _ _ [some (.inr (some 47)), some (.inl v1), some (.inl v2), some (.inl v3)] _ _ _
  refine mw_aload_n (pc' := 1) dX12_hears_0 rfl rfl ?_
  refine mw_iload_n (pc' := 2) dX12_hears_1 rfl rfl ?_
  refine mw_callV (pc' := 5) (b' := (0, 0)) (b1 := b) (av := [.inl v1]) (rest := []) dX12_hears_2 rfl lkX12_330 rfl rfl (Nat.le_of_ble_eq_true rfl) ⟨Nat.le_of_eq (Nat.zero_add _), Nat.le_of_eq (Nat.zero_add _)⟩ (skT_47 hS) ?_
  refine mC_mono (fun r h1 hr => ?_) K
  obtain ⟨x2, rfl, hS, K⟩ := hr
  show mW _ _ _ _ _ _ [.inl x2] _ _
  refine mw_if_eq (pc' := 8) (tgt := 38) dX12_hears_5 rfl (by decide) (fun c7 => ?_) (fun c7 => ?_)
  · replace K := K.1 c7
    refine mw_iconst (pc' := 39) (v := (-1)) dX12_hears_38 rfl (by decide) ?_
    exact mw_iret dX12_hears_39 rfl rfl K
  · replace K := K.2 c7
    refine mw_iload_n (pc' := 9) dX12_hears_8 rfl rfl ?_
    refine mw_iconst (pc' := 10) (v := 0) dX12_hears_9 rfl (by decide) ?_
    refine mw_bipush (pc' := 12) (v := 99) dX12_hears_10 rfl (by decide) ?_
    refine mw_callS (pc' := 15) (b' := (0, 0)) (b1 := b) (av := [.inl v2, .inl 0, .inl 99]) (rest := []) dX12_hears_12 rfl lkX12_173 rfl rfl (Nat.le_of_ble_eq_true rfl) ⟨Nat.le_of_eq (Nat.zero_add _), Nat.le_of_eq (Nat.zero_add _)⟩ ?_
    refine pX12_in ?_
    refine mw_if_eq (pc' := 18) (tgt := 38) dX12_hears_15 rfl (by decide) (fun c6 => ?_) (fun c6 => ?_)
    · replace K := K.1 c6
      refine mw_iconst (pc' := 39) (v := (-1)) dX12_hears_38 rfl (by decide) ?_
      exact mw_iret dX12_hears_39 rfl rfl K
    · replace K := K.2 c6
      refine mw_iload_n (pc' := 19) dX12_hears_18 rfl rfl ?_
      refine mw_iconst (pc' := 20) (v := 0) dX12_hears_19 rfl (by decide) ?_
      refine mw_bipush (pc' := 22) (v := 99) dX12_hears_20 rfl (by decide) ?_
      refine mw_callS (pc' := 25) (b' := (0, 0)) (b1 := b) (av := [.inl v3, .inl 0, .inl 99]) (rest := []) dX12_hears_22 rfl lkX12_173 rfl rfl (Nat.le_of_ble_eq_true rfl) ⟨Nat.le_of_eq (Nat.zero_add _), Nat.le_of_eq (Nat.zero_add _)⟩ ?_
      refine pX12_in ?_
      refine mw_if_eq (pc' := 28) (tgt := 38) dX12_hears_25 rfl (by decide) (fun c5 => ?_) (fun c5 => ?_)
      · replace K := K.1 c5
        refine mw_iconst (pc' := 39) (v := (-1)) dX12_hears_38 rfl (by decide) ?_
        exact mw_iret dX12_hears_39 rfl rfl K
      · replace K := K.2 c5
        refine mw_aload_n (pc' := 29) dX12_hears_28 rfl rfl ?_
        refine mw_iload_n (pc' := 30) dX12_hears_29 rfl rfl ?_
        refine mw_iload_n (pc' := 31) dX12_hears_30 rfl rfl ?_
        refine mw_iload_n (pc' := 32) dX12_hears_31 rfl rfl ?_
        refine mw_callV (pc' := 35) (b' := (0, 0)) (b1 := b) (av := [.inl v1, .inl v2, .inl v3]) (rest := []) dX12_hears_32 rfl lkX12_343 rfl rfl (Nat.le_of_ble_eq_true rfl) ⟨Nat.le_of_eq (Nat.zero_add _), Nat.le_of_eq (Nat.zero_add _)⟩ (skT_47 hS) ?_
        refine mC_mono (fun r h3 hr => ?_) K
        obtain ⟨x4, rfl, hS, K⟩ := hr
        show mW _ _ _ _ _ _ [.inl x4] _ _
        refine mw_goto (tgt := 39) dX12_hears_35 (by decide) ?_
        exact mw_iret dX12_hears_39 rfl rfl K

set_option maxRecDepth 100000 in
set_option maxHeartbeats 4000000 in
theorem qX12_echo {G : mG} {d : Nat} {b : Nat × Nat} {h : mH} {Q : Option mV → mH → Prop} (v1 : Int32) (v2 : Int32) (hS : mSk h)
    (K : (((f_X12_isDirection v1) = 0 → Q (some (.inl (-1))) h) ∧ (¬ (f_X12_isDirection v1) = 0 → (((f_X12_in v2 0 64) = 0 → Q (some (.inl (-1))) h) ∧ (¬ (f_X12_in v2 0 64) = 0 → mC G kX12_note d (0, 0) [.inr (some 47), .inl (v1 - 10), .inl v2, .inl 0] h (fun r h1 => ∃ x2, r = some (.inl x2) ∧ mSk h1 ∧ Q (some (.inl x2)) h1)))))) : mC G kX12_echo (d + 1) b [.inr (some 47), .inl v1, .inl v2] h Q := by
  refine mC_in rfl (Nat.le_of_ble_eq_true rfl) ?_
  show mW _ _ _ _ _ [some (.inr (some 47)), some (.inl v1), some (.inl v2)] _ _ _
  refine mw_iload_n (pc' := 1) dX12_echo_0 rfl rfl ?_
  refine mw_callS (pc' := 4) (b' := (0, 0)) (b1 := b) (av := [.inl v1]) (rest := []) dX12_echo_1 rfl lkX12_212 rfl rfl (Nat.le_of_ble_eq_true rfl) ⟨Nat.le_of_eq (Nat.zero_add _), Nat.le_of_eq (Nat.zero_add _)⟩ ?_
  refine pX12_isDirection ?_
  refine mw_if_eq (pc' := 7) (tgt := 30) dX12_echo_4 rfl (by decide) (fun c4 => ?_) (fun c4 => ?_)
  · replace K := K.1 c4
    refine mw_iconst (pc' := 31) (v := (-1)) dX12_echo_30 rfl (by decide) ?_
    exact mw_iret dX12_echo_31 rfl rfl K
  · replace K := K.2 c4
    refine mw_iload_n (pc' := 8) dX12_echo_7 rfl rfl ?_
    refine mw_iconst (pc' := 9) (v := 0) dX12_echo_8 rfl (by decide) ?_
    refine mw_bipush (pc' := 11) (v := 64) dX12_echo_9 rfl (by decide) ?_
    refine mw_callS (pc' := 14) (b' := (0, 0)) (b1 := b) (av := [.inl v2, .inl 0, .inl 64]) (rest := []) dX12_echo_11 rfl lkX12_173 rfl rfl (Nat.le_of_ble_eq_true rfl) ⟨Nat.le_of_eq (Nat.zero_add _), Nat.le_of_eq (Nat.zero_add _)⟩ ?_
    refine pX12_in ?_
    refine mw_if_eq (pc' := 17) (tgt := 30) dX12_echo_14 rfl (by decide) (fun c3 => ?_) (fun c3 => ?_)
    · replace K := K.1 c3
      refine mw_iconst (pc' := 31) (v := (-1)) dX12_echo_30 rfl (by decide) ?_
      exact mw_iret dX12_echo_31 rfl rfl K
    · replace K := K.2 c3
      refine mw_aload_n (pc' := 18) dX12_echo_17 rfl rfl ?_
      refine mw_iload_n (pc' := 19) dX12_echo_18 rfl rfl ?_
      refine mw_bipush (pc' := 21) (v := 10) dX12_echo_19 rfl (by decide) ?_
      refine mw_isub (pc' := 22) dX12_echo_21 rfl ?_
      refine mw_iload_n (pc' := 23) dX12_echo_22 rfl rfl ?_
      refine mw_iconst (pc' := 24) (v := 0) dX12_echo_23 rfl (by decide) ?_
      refine mw_callV (pc' := 27) (b' := (0, 0)) (b1 := b) (av := [.inl (v1 - 10), .inl v2, .inl 0]) (rest := []) dX12_echo_24 rfl lkX12_343 rfl rfl (Nat.le_of_ble_eq_true rfl) ⟨Nat.le_of_eq (Nat.zero_add _), Nat.le_of_eq (Nat.zero_add _)⟩ (skT_47 hS) ?_
      refine mC_mono (fun r h1 hr => ?_) K
      obtain ⟨x2, rfl, hS, K⟩ := hr
      show mW _ _ _ _ _ _ [.inl x2] _ _
      refine mw_goto (tgt := 31) dX12_echo_27 (by decide) ?_
      exact mw_iret dX12_echo_31 rfl rfl K

set_option maxRecDepth 100000 in
set_option maxHeartbeats 4000000 in
theorem qX12_back {G : mG} {d : Nat} {b : Nat × Nat} {h : mH} {Q : Option mV → mH → Prop}  (hS : mSk h)
    (K : ((¬ (mI h 47 33) = 0 → ∀ h1, h1 = mSI h 47 33 ((mI h 47 33) - 1) → Q (some (.inl (mI h1 47 33))) h1) ∧ ((mI h 47 33) = 0 → Q (some (.inl (-1))) h))) : mC G kX12_back d b [.inr (some 47)] h Q := by
  refine mC_in rfl (Nat.le_of_ble_eq_true rfl) ?_
  show mW _ _ _ _ _ [some (.inr (some 47))] _ _ _
  refine mw_aload_n (pc' := 1) dX12_back_0 rfl rfl ?_
  refine mw_getI (pc' := 4) dX12_back_1 rfl flX12_340 rfl (skT_47 hS) ?_
  refine mw_if_ne (pc' := 7) (tgt := 9) dX12_back_4 rfl (by decide) (fun c2 => ?_) (fun c2 => ?_)
  · replace K := K.1 c2
    refine mw_aload_n (pc' := 10) dX12_back_9 rfl rfl ?_
    refine mw_aload_n (pc' := 11) dX12_back_10 rfl rfl ?_
    refine mw_getI (pc' := 14) dX12_back_11 rfl flX12_340 rfl (skT_47 hS) ?_
    refine mw_iconst (pc' := 15) (v := 1) dX12_back_14 rfl (by decide) ?_
    refine mw_isub (pc' := 16) dX12_back_15 rfl ?_
    refine mw_putIK (pc' := 19) dX12_back_16 rfl flX12_340 rfl (Or.inl rfl) ⟨rfl, rfl⟩ (skT_47 hS) hS (fun h1 eh1 hS => ?_)
    replace K := K h1 eh1
    refine mw_aload_n (pc' := 20) dX12_back_19 rfl rfl ?_
    refine mw_getI (pc' := 23) dX12_back_20 rfl flX12_340 rfl (skT_47 hS) ?_
    exact mw_iret dX12_back_23 rfl rfl K
  · replace K := K.2 c2
    refine mw_iconst (pc' := 8) (v := (-1)) dX12_back_7 rfl (by decide) ?_
    exact mw_iret dX12_back_8 rfl rfl K

set_option maxRecDepth 100000 in
set_option maxHeartbeats 4000000 in
theorem qX12_wrong {G : mG} {d : Nat} {b : Nat × Nat} {h : mH} {Q : Option mV → mH → Prop} (v1 : Int32) (hS : mSk h)
    (K : ((¬ (f_X12_in v1 0 3) = 0 → ∀ h1, h1 = mSI h 47 34 v1 → Q (some (.inl 1)) h1) ∧ ((f_X12_in v1 0 3) = 0 → Q (some (.inl 0)) h))) : mC G kX12_wrong (d + 1) b [.inr (some 47), .inl v1] h Q := by
  refine mC_in rfl (Nat.le_of_ble_eq_true rfl) ?_
  show mW _ _ _ _ _ [some (.inr (some 47)), some (.inl v1)] _ _ _
  refine mw_iload_n (pc' := 1) dX12_wrong_0 rfl rfl ?_
  refine mw_iconst (pc' := 2) (v := 0) dX12_wrong_1 rfl (by decide) ?_
  refine mw_iconst (pc' := 3) (v := 3) dX12_wrong_2 rfl (by decide) ?_
  refine mw_callS (pc' := 6) (b' := (0, 0)) (b1 := b) (av := [.inl v1, .inl 0, .inl 3]) (rest := []) dX12_wrong_3 rfl lkX12_173 rfl rfl (Nat.le_of_ble_eq_true rfl) ⟨Nat.le_of_eq (Nat.zero_add _), Nat.le_of_eq (Nat.zero_add _)⟩ ?_
  refine pX12_in ?_
  refine mw_if_ne (pc' := 9) (tgt := 11) dX12_wrong_6 rfl (by decide) (fun c2 => ?_) (fun c2 => ?_)
  · replace K := K.1 c2
    refine mw_aload_n (pc' := 12) dX12_wrong_11 rfl rfl ?_
    refine mw_iload_n (pc' := 13) dX12_wrong_12 rfl rfl ?_
    refine mw_putIK (pc' := 16) dX12_wrong_13 rfl flX12_346 rfl (Or.inl rfl) ⟨rfl, rfl⟩ (skT_47 hS) hS (fun h1 eh1 hS => ?_)
    replace K := K h1 eh1
    refine mw_iconst (pc' := 17) (v := 1) dX12_wrong_16 rfl (by decide) ?_
    exact mw_iret dX12_wrong_17 rfl (by decide) K
  · replace K := K.2 c2
    refine mw_iconst (pc' := 10) (v := 0) dX12_wrong_9 rfl (by decide) ?_
    exact mw_iret dX12_wrong_10 rfl (by decide) K

set_option maxRecDepth 100000 in
set_option maxHeartbeats 4000000 in
theorem qX12_box {G : mG} {d : Nat} {b : Nat × Nat} {h : mH} {Q : Option mV → mH → Prop} (v1 : Int32) (v2 : Int32) (v3 : Int32) (v4 : Int32) (hS : mSk h)
    (K : (((f_X12_isCell v1 v2) = 0 → Q (some (.inl 0)) h) ∧ (¬ (f_X12_isCell v1 v2) = 0 → (((f_X12_isCell v3 v4) = 0 → Q (some (.inl 0)) h) ∧ (¬ (f_X12_isCell v3 v4) = 0 → ((v3 < v1 → Q (some (.inl 0)) h) ∧ (¬ (v3 < v1) → ((v2 ≤ v4 → ∀ h1, h1 = mSI h 47 35 v1 → ∀ h2, h2 = mSI h1 47 36 v2 → ∀ h3, h3 = mSI h2 47 37 v3 → ∀ h4, h4 = mSI h3 47 38 v4 → Q (some (.inl 1)) h4) ∧ (¬ (v2 ≤ v4) → Q (some (.inl 0)) h))))))))) : mC G kX12_box (d + 1) b [.inr (some 47), .inl v1, .inl v2, .inl v3, .inl v4] h Q := by
  refine mC_in rfl (Nat.le_of_ble_eq_true rfl) ?_
  show mW _ _ _ _ _ [some (.inr (some 47)), some (.inl v1), some (.inl v2), some (.inl v3), some (.inl v4)] _ _ _
  refine mw_iload_n (pc' := 1) dX12_box_0 rfl rfl ?_
  refine mw_iload_n (pc' := 2) dX12_box_1 rfl rfl ?_
  refine mw_callS (pc' := 5) (b' := (0, 0)) (b1 := b) (av := [.inl v1, .inl v2]) (rest := []) dX12_box_2 rfl lkX12_190 rfl rfl (Nat.le_of_ble_eq_true rfl) ⟨Nat.le_of_eq (Nat.zero_add _), Nat.le_of_eq (Nat.zero_add _)⟩ ?_
  refine pX12_isCell ?_
  refine mw_if_eq (pc' := 8) (tgt := 28) dX12_box_5 rfl (by decide) (fun c8 => ?_) (fun c8 => ?_)
  · replace K := K.1 c8
    refine mw_iconst (pc' := 29) (v := 0) dX12_box_28 rfl (by decide) ?_
    exact mw_iret dX12_box_29 rfl (by decide) K
  · replace K := K.2 c8
    refine mw_iload_n (pc' := 9) dX12_box_8 rfl rfl ?_
    refine mw_iload (pc' := 11) dX12_box_9 rfl rfl ?_
    refine mw_callS (pc' := 14) (b' := (0, 0)) (b1 := b) (av := [.inl v3, .inl v4]) (rest := []) dX12_box_11 rfl lkX12_190 rfl rfl (Nat.le_of_ble_eq_true rfl) ⟨Nat.le_of_eq (Nat.zero_add _), Nat.le_of_eq (Nat.zero_add _)⟩ ?_
    refine pX12_isCell ?_
    refine mw_if_eq (pc' := 17) (tgt := 28) dX12_box_14 rfl (by decide) (fun c7 => ?_) (fun c7 => ?_)
    · replace K := K.1 c7
      refine mw_iconst (pc' := 29) (v := 0) dX12_box_28 rfl (by decide) ?_
      exact mw_iret dX12_box_29 rfl (by decide) K
    · replace K := K.2 c7
      refine mw_iload_n (pc' := 18) dX12_box_17 rfl rfl ?_
      refine mw_iload_n (pc' := 19) dX12_box_18 rfl rfl ?_
      refine mw_icmp_lt (pc' := 22) (tgt := 28) dX12_box_19 rfl (by decide) (fun c6 => ?_) (fun c6 => ?_)
      · replace K := K.1 c6
        refine mw_iconst (pc' := 29) (v := 0) dX12_box_28 rfl (by decide) ?_
        exact mw_iret dX12_box_29 rfl (by decide) K
      · replace K := K.2 c6
        refine mw_iload (pc' := 24) dX12_box_22 rfl rfl ?_
        refine mw_iload_n (pc' := 25) dX12_box_24 rfl rfl ?_
        refine mw_icmp_ge (pc' := 28) (tgt := 30) dX12_box_25 rfl (by decide) (fun c5 => ?_) (fun c5 => ?_)
        · replace K := K.1 c5
          refine mw_aload_n (pc' := 31) dX12_box_30 rfl rfl ?_
          refine mw_iload_n (pc' := 32) dX12_box_31 rfl rfl ?_
          refine mw_putIK (pc' := 35) dX12_box_32 rfl flX12_349 rfl (Or.inl rfl) ⟨rfl, rfl⟩ (skT_47 hS) hS (fun h1 eh1 hS => ?_)
          replace K := K h1 eh1
          refine mw_aload_n (pc' := 36) dX12_box_35 rfl rfl ?_
          refine mw_iload_n (pc' := 37) dX12_box_36 rfl rfl ?_
          refine mw_putIK (pc' := 40) dX12_box_37 rfl flX12_352 rfl (Or.inl rfl) ⟨rfl, rfl⟩ (skT_47 hS) hS (fun h2 eh2 hS => ?_)
          replace K := K h2 eh2
          refine mw_aload_n (pc' := 41) dX12_box_40 rfl rfl ?_
          refine mw_iload_n (pc' := 42) dX12_box_41 rfl rfl ?_
          refine mw_putIK (pc' := 45) dX12_box_42 rfl flX12_147 rfl (Or.inl rfl) ⟨rfl, rfl⟩ (skT_47 hS) hS (fun h3 eh3 hS => ?_)
          replace K := K h3 eh3
          refine mw_aload_n (pc' := 46) dX12_box_45 rfl rfl ?_
          refine mw_iload (pc' := 48) dX12_box_46 rfl rfl ?_
          refine mw_putIK (pc' := 51) dX12_box_48 rfl flX12_151 rfl (Or.inl rfl) ⟨rfl, rfl⟩ (skT_47 hS) hS (fun h4 eh4 hS => ?_)
          replace K := K h4 eh4
          refine mw_iconst (pc' := 52) (v := 1) dX12_box_51 rfl (by decide) ?_
          exact mw_iret dX12_box_52 rfl (by decide) K
        · replace K := K.2 c5
          refine mw_iconst (pc' := 29) (v := 0) dX12_box_28 rfl (by decide) ?_
          exact mw_iret dX12_box_29 rfl (by decide) K

set_option maxRecDepth 100000 in
set_option maxHeartbeats 4000000 in
theorem qX12_holds {G : mG} {d : Nat} {b : Nat × Nat} {h : mH} {Q : Option mV → mH → Prop} (v1 : Int32) (v2 : Int32) (v3 : Int32) (v4 : Int32) (hS : mSk h)
    (K : vp_in v3 72 ∧ (((mI h 75 v3.toNatClampNeg) < 0 → vp_in v3 72 ∧ vp_in v3 72 ∧ ((¬ (mI h 76 v3.toNatClampNeg) = 0 → mC G kX12_echoOf (d + 3) (0, 0) [.inr (some 47), .inl v1, .inl (m_rem v2 32), .inl (v2 / 32), .inl ((mI h 75 v3.toNatClampNeg) + 10)] h (fun r h4 => ∃ x5, r = some (.inl x5) ∧ mSk h4 ∧ vp_in v3 72 ∧ ∀ w7 : Int32, w7 = (if ¬ x5 = (mI h4 76 v3.toNatClampNeg) then 0 else 1) → Q (some (.inl w7)) h4)) ∧ ((mI h 76 v3.toNatClampNeg) = 0 → mC G kX12_mayBeNone (d + 3) (0, 0) [.inr (some 47), .inl v1, .inl (m_rem v2 32), .inl (v2 / 32), .inl ((mI h 75 v3.toNatClampNeg) + 10)] h (fun r h10 => ∃ x11, r = some (.inl x11) ∧ mSk h10 ∧ m_bool x11 ∧ Q (some (.inl x11)) h10)))) ∧ (¬ ((mI h 75 v3.toNatClampNeg) < 0) → vp_in v3 72 ∧ vp_in v4 12 ∧ vp_in v4 12 ∧ mC G kX12_levelOf (d + 3) (0, 0) [.inr (some 47), .inl v1, .inl (mI h 75 v3.toNatClampNeg), .inl (m_rem v2 32), .inl (v2 / 32), .inl (mI h 72 v4.toNatClampNeg), .inl (mI h 73 v4.toNatClampNeg)] h (fun r h17 => ∃ x18, r = some (.inl x18) ∧ mSk h17 ∧ vp_in v3 72 ∧ vp_in v3 72 ∧ ∀ w21 : Int32, w21 = (if (mI h17 77 v3.toNatClampNeg) < (f_X12_size (x18 - (mI h17 76 v3.toNatClampNeg))) then 0 else 1) → Q (some (.inl w21)) h17)))) : mC G kX12_holds (d + 4) b [.inr (some 47), .inl v1, .inl v2, .inl v3, .inl v4] h Q := by
  refine mC_in rfl (Nat.le_of_ble_eq_true rfl) ?_
  show mW _ _ _ _ _ [some (.inr (some 47)), some (.inl v1), some (.inl v2), some (.inl v3), some (.inl v4), none, none, none] _ _ _
  refine mw_iload_n (pc' := 1) dX12_holds_0 rfl rfl ?_
  refine mw_bipush (pc' := 3) (v := 32) dX12_holds_1 rfl (by decide) ?_
  refine mw_iremM (pc' := 4) dX12_holds_3 rfl (by decide) ?_
  refine mw_istore (pc' := 6) dX12_holds_4 rfl (by decide) ?_
  show mW _ _ _ _ _ [some (.inr (some 47)), some (.inl v1), some (.inl v2), some (.inl v3), some (.inl v4), some (.inl (m_rem v2 32)), none, none] _ _ _
  refine mw_iload_n (pc' := 7) dX12_holds_6 rfl rfl ?_
  refine mw_bipush (pc' := 9) (v := 32) dX12_holds_7 rfl (by decide) ?_
  refine mw_idiv (pc' := 10) dX12_holds_9 rfl (by decide) ?_
  refine mw_istore (pc' := 12) dX12_holds_10 rfl (by decide) ?_
  show mW _ _ _ _ _ [some (.inr (some 47)), some (.inl v1), some (.inl v2), some (.inl v3), some (.inl v4), some (.inl (m_rem v2 32)), some (.inl (v2 / 32)), none] _ _ _
  refine mw_aload_n (pc' := 13) dX12_holds_12 rfl rfl ?_
  refine mw_getR (pc' := 16) dX12_holds_13 rfl flX12_93 rfl (skT_47 hS) ?_
  rw [skR_47_45 hS]
  refine mw_iload_n (pc' := 17) dX12_holds_16 rfl rfl ?_
  obtain ⟨o1, K⟩ := K
  refine mw_ialdL (pc' := 18) dX12_holds_17 rfl (skT_75 hS) (skL_75 hS) o1 ?_
  refine mw_if_lt (pc' := 21) (tgt := 75) dX12_holds_18 rfl (by decide) (fun c24 => ?_) (fun c24 => ?_)
  · replace K := K.1 c24
    refine mw_aload_n (pc' := 76) dX12_holds_75 rfl rfl ?_
    refine mw_getR (pc' := 79) dX12_holds_76 rfl flX12_93 rfl (skT_47 hS) ?_
    rw [skR_47_45 hS]
    refine mw_iload_n (pc' := 80) dX12_holds_79 rfl rfl ?_
    obtain ⟨o2, K⟩ := K
    refine mw_ialdL (pc' := 81) dX12_holds_80 rfl (skT_75 hS) (skL_75 hS) o2 ?_
    refine mw_bipush (pc' := 83) (v := 10) dX12_holds_81 rfl (by decide) ?_
    refine mw_iadd (pc' := 84) dX12_holds_83 rfl ?_
    refine mw_istore (pc' := 86) dX12_holds_84 rfl (by decide) ?_
    show mW _ _ _ _ _ [some (.inr (some 47)), some (.inl v1), some (.inl v2), some (.inl v3), some (.inl v4), some (.inl (m_rem v2 32)), some (.inl (v2 / 32)), some (.inl ((mI h 75 v3.toNatClampNeg) + 10))] _ _ _
    refine mw_aload_n (pc' := 87) dX12_holds_86 rfl rfl ?_
    refine mw_getR (pc' := 90) dX12_holds_87 rfl flX12_96 rfl (skT_47 hS) ?_
    rw [skR_47_46 hS]
    refine mw_iload_n (pc' := 91) dX12_holds_90 rfl rfl ?_
    obtain ⟨o3, K⟩ := K
    refine mw_ialdL (pc' := 92) dX12_holds_91 rfl (skT_76 hS) (skL_76 hS) o3 ?_
    refine mw_if_ne (pc' := 95) (tgt := 109) dX12_holds_92 rfl (by decide) (fun c13 => ?_) (fun c13 => ?_)
    · replace K := K.1 c13
      refine mw_aload_n (pc' := 110) dX12_holds_109 rfl rfl ?_
      refine mw_iload_n (pc' := 111) dX12_holds_110 rfl rfl ?_
      refine mw_iload (pc' := 113) dX12_holds_111 rfl rfl ?_
      refine mw_iload (pc' := 115) dX12_holds_113 rfl rfl ?_
      refine mw_iload (pc' := 117) dX12_holds_115 rfl rfl ?_
      refine mw_callV (pc' := 120) (b' := (0, 0)) (b1 := b) (av := [.inl v1, .inl (m_rem v2 32), .inl (v2 / 32), .inl ((mI h 75 v3.toNatClampNeg) + 10)]) (rest := []) dX12_holds_117 rfl lkX12_215 rfl rfl (Nat.le_of_ble_eq_true rfl) ⟨Nat.le_of_eq (Nat.zero_add _), Nat.le_of_eq (Nat.zero_add _)⟩ (skT_47 hS) ?_
      refine mC_mono (fun r h4 hr => ?_) K
      obtain ⟨x5, rfl, hS, K⟩ := hr
      show mW _ _ _ _ _ _ [.inl x5] _ _
      refine mw_aload_n (pc' := 121) dX12_holds_120 rfl rfl ?_
      refine mw_getR (pc' := 124) dX12_holds_121 rfl flX12_96 rfl (skT_47 hS) ?_
      rw [skR_47_46 hS]
      refine mw_iload_n (pc' := 125) dX12_holds_124 rfl rfl ?_
      obtain ⟨o6, K⟩ := K
      refine mw_ialdL (pc' := 126) dX12_holds_125 rfl (skT_76 hS) (skL_76 hS) o6 ?_
      have J8 : ∀ w7 : Int32, w7 = (if ¬ x5 = (mI h4 76 v3.toNatClampNeg) then 0 else 1) → mW G kX12_holds (d + 4) b 134 [some (.inr (some 47)), some (.inl v1), some (.inl v2), some (.inl v3), some (.inl v4), some (.inl (m_rem v2 32)), some (.inl (v2 / 32)), some (.inl ((mI h 75 v3.toNatClampNeg) + 10))] ([.inl w7]) h4 Q := by
        intro w7 ew7
        replace K := K w7 ew7
        exact mw_iret dX12_holds_134 rfl (m_boolN (by rw [ew7]; exact (m_boolI m_bool0 m_bool1))) K
      refine mw_icmp_ne (pc' := 129) (tgt := 133) dX12_holds_126 rfl (by decide) (fun c9 => ?_) (fun c9 => ?_)
      · refine mw_iconst (pc' := 134) (v := 0) dX12_holds_133 rfl (by decide) ?_
        exact J8 _ (by rw [if_pos c9])
      · refine mw_iconst (pc' := 130) (v := 1) dX12_holds_129 rfl (by decide) ?_
        refine mw_goto (tgt := 134) dX12_holds_130 (by decide) ?_
        exact J8 _ (by rw [if_neg (fun z => z c9)])
    · replace K := K.2 c13
      refine mw_aload_n (pc' := 96) dX12_holds_95 rfl rfl ?_
      refine mw_iload_n (pc' := 97) dX12_holds_96 rfl rfl ?_
      refine mw_iload (pc' := 99) dX12_holds_97 rfl rfl ?_
      refine mw_iload (pc' := 101) dX12_holds_99 rfl rfl ?_
      refine mw_iload (pc' := 103) dX12_holds_101 rfl rfl ?_
      refine mw_callV (pc' := 106) (b' := (0, 0)) (b1 := b) (av := [.inl v1, .inl (m_rem v2 32), .inl (v2 / 32), .inl ((mI h 75 v3.toNatClampNeg) + 10)]) (rest := []) dX12_holds_103 rfl lkX12_355 rfl rfl (Nat.le_of_ble_eq_true rfl) ⟨Nat.le_of_eq (Nat.zero_add _), Nat.le_of_eq (Nat.zero_add _)⟩ (skT_47 hS) ?_
      refine mC_mono (fun r h10 hr => ?_) K
      obtain ⟨x11, rfl, hS, K⟩ := hr
      show mW _ _ _ _ _ _ [.inl x11] _ _
      refine mw_goto (tgt := 134) dX12_holds_106 (by decide) ?_
      obtain ⟨o12, K⟩ := K
      exact mw_iret dX12_holds_134 rfl (m_boolN o12) K
  · replace K := K.2 c24
    refine mw_aload_n (pc' := 22) dX12_holds_21 rfl rfl ?_
    refine mw_iload_n (pc' := 23) dX12_holds_22 rfl rfl ?_
    refine mw_aload_n (pc' := 24) dX12_holds_23 rfl rfl ?_
    refine mw_getR (pc' := 27) dX12_holds_24 rfl flX12_93 rfl (skT_47 hS) ?_
    rw [skR_47_45 hS]
    refine mw_iload_n (pc' := 28) dX12_holds_27 rfl rfl ?_
    obtain ⟨o14, K⟩ := K
    refine mw_ialdL (pc' := 29) dX12_holds_28 rfl (skT_75 hS) (skL_75 hS) o14 ?_
    refine mw_iload (pc' := 31) dX12_holds_29 rfl rfl ?_
    refine mw_iload (pc' := 33) dX12_holds_31 rfl rfl ?_
    refine mw_aload_n (pc' := 34) dX12_holds_33 rfl rfl ?_
    refine mw_getR (pc' := 37) dX12_holds_34 rfl flX12_84 rfl (skT_47 hS) ?_
    rw [skR_47_42 hS]
    refine mw_iload (pc' := 39) dX12_holds_37 rfl rfl ?_
    obtain ⟨o15, K⟩ := K
    refine mw_ialdL (pc' := 40) dX12_holds_39 rfl (skT_72 hS) (skL_72 hS) o15 ?_
    refine mw_aload_n (pc' := 41) dX12_holds_40 rfl rfl ?_
    refine mw_getR (pc' := 44) dX12_holds_41 rfl flX12_87 rfl (skT_47 hS) ?_
    rw [skR_47_43 hS]
    refine mw_iload (pc' := 46) dX12_holds_44 rfl rfl ?_
    obtain ⟨o16, K⟩ := K
    refine mw_ialdL (pc' := 47) dX12_holds_46 rfl (skT_73 hS) (skL_73 hS) o16 ?_
    refine mw_callV (pc' := 50) (b' := (0, 0)) (b1 := b) (av := [.inl v1, .inl (mI h 75 v3.toNatClampNeg), .inl (m_rem v2 32), .inl (v2 / 32), .inl (mI h 72 v4.toNatClampNeg), .inl (mI h 73 v4.toNatClampNeg)]) (rest := []) dX12_holds_47 rfl lkX12_336 rfl rfl (Nat.le_of_ble_eq_true rfl) ⟨Nat.le_of_eq (Nat.zero_add _), Nat.le_of_eq (Nat.zero_add _)⟩ (skT_47 hS) ?_
    refine mC_mono (fun r h17 hr => ?_) K
    obtain ⟨x18, rfl, hS, K⟩ := hr
    show mW _ _ _ _ _ _ [.inl x18] _ _
    refine mw_aload_n (pc' := 51) dX12_holds_50 rfl rfl ?_
    refine mw_getR (pc' := 54) dX12_holds_51 rfl flX12_96 rfl (skT_47 hS) ?_
    rw [skR_47_46 hS]
    refine mw_iload_n (pc' := 55) dX12_holds_54 rfl rfl ?_
    obtain ⟨o19, K⟩ := K
    refine mw_ialdL (pc' := 56) dX12_holds_55 rfl (skT_76 hS) (skL_76 hS) o19 ?_
    refine mw_isub (pc' := 57) dX12_holds_56 rfl ?_
    refine mw_callS (pc' := 60) (b' := (0, 0)) (b1 := b) (av := [.inl (x18 - (mI h17 76 v3.toNatClampNeg))]) (rest := []) dX12_holds_57 rfl lkX12_320 rfl rfl (Nat.le_of_ble_eq_true rfl) ⟨Nat.le_of_eq (Nat.zero_add _), Nat.le_of_eq (Nat.zero_add _)⟩ ?_
    refine pX12_size ?_
    refine mw_aload_n (pc' := 61) dX12_holds_60 rfl rfl ?_
    refine mw_getR (pc' := 64) dX12_holds_61 rfl flX12_99 rfl (skT_47 hS) ?_
    rw [skR_47_47 hS]
    refine mw_iload_n (pc' := 65) dX12_holds_64 rfl rfl ?_
    obtain ⟨o20, K⟩ := K
    refine mw_ialdL (pc' := 66) dX12_holds_65 rfl (skT_77 hS) (skL_77 hS) o20 ?_
    have J22 : ∀ w21 : Int32, w21 = (if (mI h17 77 v3.toNatClampNeg) < (f_X12_size (x18 - (mI h17 76 v3.toNatClampNeg))) then 0 else 1) → mW G kX12_holds (d + 4) b 74 [some (.inr (some 47)), some (.inl v1), some (.inl v2), some (.inl v3), some (.inl v4), some (.inl (m_rem v2 32)), some (.inl (v2 / 32)), none] ([.inl w21]) h17 Q := by
      intro w21 ew21
      replace K := K w21 ew21
      exact mw_iret dX12_holds_74 rfl (m_boolN (by rw [ew21]; exact (m_boolI m_bool0 m_bool1))) K
    refine mw_icmp_gt (pc' := 69) (tgt := 73) dX12_holds_66 rfl (by decide) (fun c23 => ?_) (fun c23 => ?_)
    · refine mw_iconst (pc' := 74) (v := 0) dX12_holds_73 rfl (by decide) ?_
      exact J22 _ (by rw [if_pos c23])
    · refine mw_iconst (pc' := 70) (v := 1) dX12_holds_69 rfl (by decide) ?_
      refine mw_goto (tgt := 74) dX12_holds_70 (by decide) ?_
      exact J22 _ (by rw [if_neg c23])

set_option maxRecDepth 100000 in
set_option maxHeartbeats 4000000 in
theorem qX12_laysOwn {G : mG} {d : Nat} {b : Nat × Nat} {h : mH} {Q : Option mV → mH → Prop} (v1 : Int32) (hS : mSk h)
    (K : mW G kX12_laysOwn (d + 5) b 2 [some (.inr (some 47)), some (.inl v1), some (.inl 0), none, none, none] [] h Q) : mC G kX12_laysOwn (d + 5) b [.inr (some 47), .inl v1] h Q := by
  refine mC_in rfl (Nat.le_of_ble_eq_true rfl) ?_
  show mW _ _ _ _ _ [some (.inr (some 47)), some (.inl v1), none, none, none, none] _ _ _
  refine mw_iconst (pc' := 1) (v := 0) dX12_laysOwn_0 rfl (by decide) ?_
  refine mw_istore_n (pc' := 2) dX12_laysOwn_1 rfl (by decide) ?_
  show mW _ _ _ _ _ [some (.inr (some 47)), some (.inl v1), some (.inl 0), none, none, none] _ _ _
  exact K

set_option maxRecDepth 100000 in
set_option maxHeartbeats 4000000 in
theorem qX12_laysOwn_2 {G : mG} {d : Nat} {b : Nat × Nat} {h : mH} {Q : Option mV → mH → Prop} (v1 : Int32) (v2 : Int32) (hS : mSk h)
    (K : (((mI h 47 33) ≤ v2 → Q none h) ∧ (¬ ((mI h 47 33) ≤ v2) → mW G kX12_laysOwn (d + 5) b 12 [some (.inr (some 47)), some (.inl v1), some (.inl v2), some (.inl 0), none, none] [] h Q))) : mW G kX12_laysOwn (d + 5) b 2 [some (.inr (some 47)), some (.inl v1), some (.inl v2), none, none, none] [] h Q := by
  refine mw_iload_n (pc' := 3) dX12_laysOwn_2 rfl rfl ?_
  refine mw_aload_n (pc' := 4) dX12_laysOwn_3 rfl rfl ?_
  refine mw_getI (pc' := 7) dX12_laysOwn_4 rfl flX12_340 rfl (skT_47 hS) ?_
  refine mw_icmp_ge (pc' := 10) (tgt := 124) dX12_laysOwn_7 rfl (by decide) (fun c1 => ?_) (fun c1 => ?_)
  · replace K := K.1 c1
    exact mw_ret dX12_laysOwn_124 rfl K
  · replace K := K.2 c1
    refine mw_iconst (pc' := 11) (v := 0) dX12_laysOwn_10 rfl (by decide) ?_
    refine mw_istore_n (pc' := 12) dX12_laysOwn_11 rfl (by decide) ?_
    show mW _ _ _ _ _ [some (.inr (some 47)), some (.inl v1), some (.inl v2), some (.inl 0), none, none] _ _ _
    exact K

set_option maxRecDepth 100000 in
set_option maxHeartbeats 4000000 in
theorem qX12_laysOwn_12 {G : mG} {d : Nat} {b : Nat × Nat} {h : mH} {Q : Option mV → mH → Prop} (v1 : Int32) (v2 : Int32) (v3 : Int32) (hS : mSk h)
    (K : ((1024 ≤ v3 → mW G kX12_laysOwn (d + 5) b 2 [some (.inr (some 47)), some (.inl v1), some (.inl (v2 + 1)), none, none, none] [] h Q) ∧ (¬ (1024 ≤ v3) → vp_in ((1024 * v1) + v3) 8192 ∧ (((mI h 52 ((1024 * v1) + v3).toNatClampNeg) = 0 → mW G kX12_laysOwn (d + 5) b 46 [some (.inr (some 47)), some (.inl v1), some (.inl v2), some (.inl v3), some (.inl 0), some (.inl 0)] [] h Q) ∧ (¬ (mI h 52 ((1024 * v1) + v3).toNatClampNeg) = 0 → mW G kX12_laysOwn (d + 5) b 46 [some (.inr (some 47)), some (.inl v1), some (.inl v2), some (.inl v3), some (.inl 1000000000), some (.inl 0)] [] h Q))))) : mW G kX12_laysOwn (d + 5) b 12 [some (.inr (some 47)), some (.inl v1), some (.inl v2), some (.inl v3), none, none] [] h Q := by
  refine mw_iload_n (pc' := 13) dX12_laysOwn_12 rfl rfl ?_
  refine mw_sipush (pc' := 16) (v := 1024) dX12_laysOwn_13 rfl (by decide) ?_
  refine mw_icmp_ge (pc' := 19) (tgt := 118) dX12_laysOwn_16 rfl (by decide) (fun c3 => ?_) (fun c3 => ?_)
  · replace K := K.1 c3
    refine mw_iinc (pc' := 121) (v := v2 + 1) dX12_laysOwn_118 rfl (by decide) rfl rfl ?_
    show mW _ _ _ _ _ [some (.inr (some 47)), some (.inl v1), some (.inl (v2 + 1)), some (.inl v3), none, none] _ _ _
    refine mw_goto (tgt := 2) dX12_laysOwn_121 (by decide) ?_
    refine mw_weak (ls' := [some (.inr (some 47)), some (.inl v1), some (.inl (v2 + 1)), none, none, none]) ?_ ?_
    · intro i v hv; match i, hv with
      | 0, hv => exact hv
      | 1, hv => exact hv
      | 2, hv => exact hv
      | 3, hv => cases hv
      | 4, hv => cases hv
      | 5, hv => cases hv
      | n + 6, hv => cases hv
    exact K
  · replace K := K.2 c3
    refine mw_aload_n (pc' := 20) dX12_laysOwn_19 rfl rfl ?_
    refine mw_getR (pc' := 23) dX12_laysOwn_20 rfl flX12_22 rfl (skT_47 hS) ?_
    rw [skR_47_5 hS]
    refine mw_sipush (pc' := 26) (v := 1024) dX12_laysOwn_23 rfl (by decide) ?_
    refine mw_iload_n (pc' := 27) dX12_laysOwn_26 rfl rfl ?_
    refine mw_imul (pc' := 28) dX12_laysOwn_27 rfl ?_
    refine mw_iload_n (pc' := 29) dX12_laysOwn_28 rfl rfl ?_
    refine mw_iadd (pc' := 30) dX12_laysOwn_29 rfl ?_
    obtain ⟨o1, K⟩ := K
    refine mw_baldL (pc' := 31) dX12_laysOwn_30 rfl (skT_52 hS) (skL_52 hS) o1 ?_
    refine mw_if_eq (pc' := 34) (tgt := 40) dX12_laysOwn_31 rfl (by decide) (fun c2 => ?_) (fun c2 => ?_)
    · replace K := K.1 c2
      refine mw_iconst (pc' := 41) (v := 0) dX12_laysOwn_40 rfl (by decide) ?_
      refine mw_istore (pc' := 43) dX12_laysOwn_41 rfl (by decide) ?_
      show mW _ _ _ _ _ [some (.inr (some 47)), some (.inl v1), some (.inl v2), some (.inl v3), some (.inl 0), none] _ _ _
      refine mw_iconst (pc' := 44) (v := 0) dX12_laysOwn_43 rfl (by decide) ?_
      refine mw_istore (pc' := 46) dX12_laysOwn_44 rfl (by decide) ?_
      show mW _ _ _ _ _ [some (.inr (some 47)), some (.inl v1), some (.inl v2), some (.inl v3), some (.inl 0), some (.inl 0)] _ _ _
      exact K
    · replace K := K.2 c2
      refine mw_ldcw (pc' := 37) dX12_laysOwn_34 rfl cnX12_359 ?_
      refine mw_goto (tgt := 41) dX12_laysOwn_37 (by decide) ?_
      refine mw_istore (pc' := 43) dX12_laysOwn_41 rfl (by decide) ?_
      show mW _ _ _ _ _ [some (.inr (some 47)), some (.inl v1), some (.inl v2), some (.inl v3), some (.inl 1000000000), none] _ _ _
      refine mw_iconst (pc' := 44) (v := 0) dX12_laysOwn_43 rfl (by decide) ?_
      refine mw_istore (pc' := 46) dX12_laysOwn_44 rfl (by decide) ?_
      show mW _ _ _ _ _ [some (.inr (some 47)), some (.inl v1), some (.inl v2), some (.inl v3), some (.inl 1000000000), some (.inl 0)] _ _ _
      exact K

set_option maxRecDepth 100000 in
set_option maxHeartbeats 4000000 in
theorem qX12_laysOwn_46 {G : mG} {d : Nat} {b : Nat × Nat} {h : mH} {Q : Option mV → mH → Prop} (v1 : Int32) (v2 : Int32) (v3 : Int32) (v4 : Int32) (v5 : Int32) (hS : mSk h)
    (K : vp_in v2 12 ∧ (((mI h 74 v2.toNatClampNeg) ≤ v5 → vp_in ((1024 * v2) + v3) 12288 ∧ ∀ h3, h3 = mSI h 78 ((1024 * v2) + v3).toNatClampNeg v4 → mW G kX12_laysOwn (d + 5) b 12 [some (.inr (some 47)), some (.inl v1), some (.inl v2), some (.inl (v3 + 1)), none, none] [] h3 Q) ∧ (¬ ((mI h 74 v2.toNatClampNeg) ≤ v5) → ((1000000000 ≤ v4 → vp_in ((1024 * v2) + v3) 12288 ∧ ∀ h5, h5 = mSI h 78 ((1024 * v2) + v3).toNatClampNeg v4 → mW G kX12_laysOwn (d + 5) b 12 [some (.inr (some 47)), some (.inl v1), some (.inl v2), some (.inl (v3 + 1)), none, none] [] h5 Q) ∧ (¬ (1000000000 ≤ v4) → mC G kX12_holds (d + 4) (0, 0) [.inr (some 47), .inl v1, .inl v3, .inl ((6 * v2) + v5), .inl v2] h (fun r h6 => ∃ x7, r = some (.inl x7) ∧ mSk h6 ∧ ∀ w8 : Int32, w8 = (if x7 = 0 then 1 else 0) → mW G kX12_laysOwn (d + 5) b 46 [some (.inr (some 47)), some (.inl v1), some (.inl v2), some (.inl v3), some (.inl (v4 + w8)), some (.inl (v5 + 1))] [] h6 Q)))))) : mW G kX12_laysOwn (d + 5) b 46 [some (.inr (some 47)), some (.inl v1), some (.inl v2), some (.inl v3), some (.inl v4), some (.inl v5)] [] h Q := by
  refine mw_iload (pc' := 48) dX12_laysOwn_46 rfl rfl ?_
  refine mw_aload_n (pc' := 49) dX12_laysOwn_48 rfl rfl ?_
  refine mw_getR (pc' := 52) dX12_laysOwn_49 rfl flX12_90 rfl (skT_47 hS) ?_
  rw [skR_47_44 hS]
  refine mw_iload_n (pc' := 53) dX12_laysOwn_52 rfl rfl ?_
  obtain ⟨o1, K⟩ := K
  refine mw_ialdL (pc' := 54) dX12_laysOwn_53 rfl (skT_74 hS) (skL_74 hS) o1 ?_
  refine mw_icmp_ge (pc' := 57) (tgt := 98) dX12_laysOwn_54 rfl (by decide) (fun c12 => ?_) (fun c12 => ?_)
  · replace K := K.1 c12
    refine mw_aload_n (pc' := 99) dX12_laysOwn_98 rfl rfl ?_
    refine mw_getR (pc' := 102) dX12_laysOwn_99 rfl flX12_102 rfl (skT_47 hS) ?_
    rw [skR_47_48 hS]
    refine mw_sipush (pc' := 105) (v := 1024) dX12_laysOwn_102 rfl (by decide) ?_
    refine mw_iload_n (pc' := 106) dX12_laysOwn_105 rfl rfl ?_
    refine mw_imul (pc' := 107) dX12_laysOwn_106 rfl ?_
    refine mw_iload_n (pc' := 108) dX12_laysOwn_107 rfl rfl ?_
    refine mw_iadd (pc' := 109) dX12_laysOwn_108 rfl ?_
    refine mw_iload (pc' := 111) dX12_laysOwn_109 rfl rfl ?_
    obtain ⟨o2, K⟩ := K
    refine mw_iastK (pc' := 112) dX12_laysOwn_111 rfl (skT_78 hS) (skL_78 hS) o2 hS (fun h3 eh3 hS => ?_)
    replace K := K h3 eh3
    refine mw_iinc (pc' := 115) (v := v3 + 1) dX12_laysOwn_112 rfl (by decide) rfl rfl ?_
    show mW _ _ _ _ _ [some (.inr (some 47)), some (.inl v1), some (.inl v2), some (.inl (v3 + 1)), some (.inl v4), some (.inl v5)] _ _ _
    refine mw_goto (tgt := 12) dX12_laysOwn_115 (by decide) ?_
    refine mw_weak (ls' := [some (.inr (some 47)), some (.inl v1), some (.inl v2), some (.inl (v3 + 1)), none, none]) ?_ ?_
    · intro i v hv; match i, hv with
      | 0, hv => exact hv
      | 1, hv => exact hv
      | 2, hv => exact hv
      | 3, hv => exact hv
      | 4, hv => cases hv
      | 5, hv => cases hv
      | n + 6, hv => cases hv
    exact K
  · replace K := K.2 c12
    refine mw_iload (pc' := 59) dX12_laysOwn_57 rfl rfl ?_
    refine mw_ldcw (pc' := 62) dX12_laysOwn_59 rfl cnX12_359 ?_
    refine mw_icmp_ge (pc' := 65) (tgt := 98) dX12_laysOwn_62 rfl (by decide) (fun c11 => ?_) (fun c11 => ?_)
    · replace K := K.1 c11
      refine mw_aload_n (pc' := 99) dX12_laysOwn_98 rfl rfl ?_
      refine mw_getR (pc' := 102) dX12_laysOwn_99 rfl flX12_102 rfl (skT_47 hS) ?_
      rw [skR_47_48 hS]
      refine mw_sipush (pc' := 105) (v := 1024) dX12_laysOwn_102 rfl (by decide) ?_
      refine mw_iload_n (pc' := 106) dX12_laysOwn_105 rfl rfl ?_
      refine mw_imul (pc' := 107) dX12_laysOwn_106 rfl ?_
      refine mw_iload_n (pc' := 108) dX12_laysOwn_107 rfl rfl ?_
      refine mw_iadd (pc' := 109) dX12_laysOwn_108 rfl ?_
      refine mw_iload (pc' := 111) dX12_laysOwn_109 rfl rfl ?_
      obtain ⟨o4, K⟩ := K
      refine mw_iastK (pc' := 112) dX12_laysOwn_111 rfl (skT_78 hS) (skL_78 hS) o4 hS (fun h5 eh5 hS => ?_)
      replace K := K h5 eh5
      refine mw_iinc (pc' := 115) (v := v3 + 1) dX12_laysOwn_112 rfl (by decide) rfl rfl ?_
      show mW _ _ _ _ _ [some (.inr (some 47)), some (.inl v1), some (.inl v2), some (.inl (v3 + 1)), some (.inl v4), some (.inl v5)] _ _ _
      refine mw_goto (tgt := 12) dX12_laysOwn_115 (by decide) ?_
      refine mw_weak (ls' := [some (.inr (some 47)), some (.inl v1), some (.inl v2), some (.inl (v3 + 1)), none, none]) ?_ ?_
      · intro i v hv; match i, hv with
        | 0, hv => exact hv
        | 1, hv => exact hv
        | 2, hv => exact hv
        | 3, hv => exact hv
        | 4, hv => cases hv
        | 5, hv => cases hv
        | n + 6, hv => cases hv
      exact K
    · replace K := K.2 c11
      refine mw_iload (pc' := 67) dX12_laysOwn_65 rfl rfl ?_
      refine mw_aload_n (pc' := 68) dX12_laysOwn_67 rfl rfl ?_
      refine mw_iload_n (pc' := 69) dX12_laysOwn_68 rfl rfl ?_
      refine mw_iload_n (pc' := 70) dX12_laysOwn_69 rfl rfl ?_
      refine mw_bipush (pc' := 72) (v := 6) dX12_laysOwn_70 rfl (by decide) ?_
      refine mw_iload_n (pc' := 73) dX12_laysOwn_72 rfl rfl ?_
      refine mw_imul (pc' := 74) dX12_laysOwn_73 rfl ?_
      refine mw_iload (pc' := 76) dX12_laysOwn_74 rfl rfl ?_
      refine mw_iadd (pc' := 77) dX12_laysOwn_76 rfl ?_
      refine mw_iload_n (pc' := 78) dX12_laysOwn_77 rfl rfl ?_
      refine mw_callV (pc' := 81) (b' := (0, 0)) (b1 := b) (av := [.inl v1, .inl v3, .inl ((6 * v2) + v5), .inl v2]) (rest := [.inl v4]) dX12_laysOwn_78 rfl lkX12_360 rfl rfl (Nat.le_of_ble_eq_true rfl) ⟨Nat.le_of_eq (Nat.zero_add _), Nat.le_of_eq (Nat.zero_add _)⟩ (skT_47 hS) ?_
      refine mC_mono (fun r h6 hr => ?_) K
      obtain ⟨x7, rfl, hS, K⟩ := hr
      show mW _ _ _ _ _ _ [.inl x7, .inl v4] _ _
      have J9 : ∀ w8 : Int32, w8 = (if x7 = 0 then 1 else 0) → mW G kX12_laysOwn (d + 5) b 89 [some (.inr (some 47)), some (.inl v1), some (.inl v2), some (.inl v3), some (.inl v4), some (.inl v5)] ([.inl w8, .inl v4]) h6 Q := by
        intro w8 ew8
        replace K := K w8 ew8
        refine mw_iadd (pc' := 90) dX12_laysOwn_89 rfl ?_
        refine mw_istore (pc' := 92) dX12_laysOwn_90 rfl (by decide) ?_
        show mW _ _ _ _ _ [some (.inr (some 47)), some (.inl v1), some (.inl v2), some (.inl v3), some (.inl (v4 + w8)), some (.inl v5)] _ _ _
        refine mw_iinc (pc' := 95) (v := v5 + 1) dX12_laysOwn_92 rfl (by decide) rfl rfl ?_
        show mW _ _ _ _ _ [some (.inr (some 47)), some (.inl v1), some (.inl v2), some (.inl v3), some (.inl (v4 + w8)), some (.inl (v5 + 1))] _ _ _
        refine mw_goto (tgt := 46) dX12_laysOwn_95 (by decide) ?_
        exact K
      refine mw_if_eq (pc' := 84) (tgt := 88) dX12_laysOwn_81 rfl (by decide) (fun c10 => ?_) (fun c10 => ?_)
      · refine mw_iconst (pc' := 89) (v := 1) dX12_laysOwn_88 rfl (by decide) ?_
        exact J9 _ (by rw [if_pos c10])
      · refine mw_iconst (pc' := 85) (v := 0) dX12_laysOwn_84 rfl (by decide) ?_
        refine mw_goto (tgt := 89) dX12_laysOwn_85 (by decide) ?_
        exact J9 _ (by rw [if_neg c10])

set_option maxRecDepth 100000 in
set_option maxHeartbeats 4000000 in
theorem qX12_leastAround {G : mG} {d : Nat} {b : Nat × Nat} {h : mH} {Q : Option mV → mH → Prop} (a1 : Nat) (v2 : Int32) (v3 : Int32) (v4 : Int32) (v5 : Int32) (ta1 : mT h a1 = 100) (hS : mSk h)
    (K : mW G kX12_leastAround (d + 1) b 12 [none, some (.inr (some a1)), some (.inl v2), some (.inl v3), some (.inl v4), some (.inl v5), some (.inl 1000000000), some (.inl (v4 - v5)), none] [] h Q) : mC G kX12_leastAround (d + 1) b [.inr (some 47), .inr (some a1), .inl v2, .inl v3, .inl v4, .inl v5] h Q := by
  refine mC_in rfl (Nat.le_of_ble_eq_true rfl) ?_
  show mW _ _ _ _ _ [some (.inr (some 47)), some (.inr (some a1)), some (.inl v2), some (.inl v3), some (.inl v4), some (.inl v5), none, none, none] _ _ _
  refine mw_ldcw (pc' := 3) dX12_leastAround_0 rfl cnX12_359 ?_
  refine mw_istore (pc' := 5) dX12_leastAround_3 rfl (by decide) ?_
  show mW _ _ _ _ _ [some (.inr (some 47)), some (.inr (some a1)), some (.inl v2), some (.inl v3), some (.inl v4), some (.inl v5), some (.inl 1000000000), none, none] _ _ _
  refine mw_iload (pc' := 7) dX12_leastAround_5 rfl rfl ?_
  refine mw_iload (pc' := 9) dX12_leastAround_7 rfl rfl ?_
  refine mw_isub (pc' := 10) dX12_leastAround_9 rfl ?_
  refine mw_istore (pc' := 12) dX12_leastAround_10 rfl (by decide) ?_
  show mW _ _ _ _ _ [some (.inr (some 47)), some (.inr (some a1)), some (.inl v2), some (.inl v3), some (.inl v4), some (.inl v5), some (.inl 1000000000), some (.inl (v4 - v5)), none] _ _ _
  refine mw_weak (ls' := [none, some (.inr (some a1)), some (.inl v2), some (.inl v3), some (.inl v4), some (.inl v5), some (.inl 1000000000), some (.inl (v4 - v5)), none]) ?_ ?_
  · intro i v hv; match i, hv with
    | 0, hv => cases hv
    | 1, hv => exact hv
    | 2, hv => exact hv
    | 3, hv => exact hv
    | 4, hv => exact hv
    | 5, hv => exact hv
    | 6, hv => exact hv
    | 7, hv => exact hv
    | 8, hv => cases hv
    | n + 9, hv => cases hv
  exact K

set_option maxRecDepth 100000 in
set_option maxHeartbeats 4000000 in
theorem qX12_leastAround_12 {G : mG} {d : Nat} {b : Nat × Nat} {h : mH} {Q : Option mV → mH → Prop} (a1 : Nat) (v2 : Int32) (v3 : Int32) (v4 : Int32) (v5 : Int32) (v6 : Int32) (v7 : Int32) (ta1 : mT h a1 = 100) (hS : mSk h)
    (K : (((v4 + v5) < v7 → Q (some (.inl v6)) h) ∧ (¬ ((v4 + v5) < v7) → mW G kX12_leastAround (d + 1) b 28 [none, some (.inr (some a1)), some (.inl v2), some (.inl v3), some (.inl v4), some (.inl v5), some (.inl v6), some (.inl v7), some (.inl (v3 - v5))] [] h Q))) : mW G kX12_leastAround (d + 1) b 12 [none, some (.inr (some a1)), some (.inl v2), some (.inl v3), some (.inl v4), some (.inl v5), some (.inl v6), some (.inl v7), none] [] h Q := by
  refine mw_iload (pc' := 14) dX12_leastAround_12 rfl rfl ?_
  refine mw_iload (pc' := 16) dX12_leastAround_14 rfl rfl ?_
  refine mw_iload (pc' := 18) dX12_leastAround_16 rfl rfl ?_
  refine mw_iadd (pc' := 19) dX12_leastAround_18 rfl ?_
  refine mw_icmp_gt (pc' := 22) (tgt := 82) dX12_leastAround_19 rfl (by decide) (fun c1 => ?_) (fun c1 => ?_)
  · replace K := K.1 c1
    refine mw_iload (pc' := 84) dX12_leastAround_82 rfl rfl ?_
    exact mw_iret dX12_leastAround_84 rfl rfl K
  · replace K := K.2 c1
    refine mw_iload_n (pc' := 23) dX12_leastAround_22 rfl rfl ?_
    refine mw_iload (pc' := 25) dX12_leastAround_23 rfl rfl ?_
    refine mw_isub (pc' := 26) dX12_leastAround_25 rfl ?_
    refine mw_istore (pc' := 28) dX12_leastAround_26 rfl (by decide) ?_
    show mW _ _ _ _ _ [none, some (.inr (some a1)), some (.inl v2), some (.inl v3), some (.inl v4), some (.inl v5), some (.inl v6), some (.inl v7), some (.inl (v3 - v5))] _ _ _
    exact K

set_option maxRecDepth 100000 in
set_option maxHeartbeats 4000000 in
theorem qX12_leastAround_28 {G : mG} {d : Nat} {b : Nat × Nat} {h : mH} {Q : Option mV → mH → Prop} (a1 : Nat) (v2 : Int32) (v3 : Int32) (v4 : Int32) (v5 : Int32) (v6 : Int32) (v7 : Int32) (v8 : Int32) (ta1 : mT h a1 = 100) (hS : mSk h)
    (K : (((v3 + v5) < v8 → mW G kX12_leastAround (d + 1) b 12 [none, some (.inr (some a1)), some (.inl v2), some (.inl v3), some (.inl v4), some (.inl v5), some (.inl v6), some (.inl (v7 + 1)), none] [] h Q) ∧ (¬ ((v3 + v5) < v8) → (((f_X12_isCell v8 v7) = 0 → mW G kX12_leastAround (d + 1) b 28 [none, some (.inr (some a1)), some (.inl v2), some (.inl v3), some (.inl v4), some (.inl v5), some (.inl v6), some (.inl v7), some (.inl (v8 + 1))] [] h Q) ∧ (¬ (f_X12_isCell v8 v7) = 0 → vp_in (((1024 * v2) + (32 * v7)) + v8) (mL h a1) ∧ mW G kX12_leastAround (d + 1) b 28 [none, some (.inr (some a1)), some (.inl v2), some (.inl v3), some (.inl v4), some (.inl v5), some (.inl (f_X12_least v6 (mI h a1 (((1024 * v2) + (32 * v7)) + v8).toNatClampNeg))), some (.inl v7), some (.inl (v8 + 1))] [] h Q))))) : mW G kX12_leastAround (d + 1) b 28 [none, some (.inr (some a1)), some (.inl v2), some (.inl v3), some (.inl v4), some (.inl v5), some (.inl v6), some (.inl v7), some (.inl v8)] [] h Q := by
  refine mw_iload (pc' := 30) dX12_leastAround_28 rfl rfl ?_
  refine mw_iload_n (pc' := 31) dX12_leastAround_30 rfl rfl ?_
  refine mw_iload (pc' := 33) dX12_leastAround_31 rfl rfl ?_
  refine mw_iadd (pc' := 34) dX12_leastAround_33 rfl ?_
  refine mw_icmp_gt (pc' := 37) (tgt := 76) dX12_leastAround_34 rfl (by decide) (fun c3 => ?_) (fun c3 => ?_)
  · replace K := K.1 c3
    refine mw_iinc (pc' := 79) (v := v7 + 1) dX12_leastAround_76 rfl (by decide) rfl rfl ?_
    show mW _ _ _ _ _ [none, some (.inr (some a1)), some (.inl v2), some (.inl v3), some (.inl v4), some (.inl v5), some (.inl v6), some (.inl (v7 + 1)), some (.inl v8)] _ _ _
    refine mw_goto (tgt := 12) dX12_leastAround_79 (by decide) ?_
    refine mw_weak (ls' := [none, some (.inr (some a1)), some (.inl v2), some (.inl v3), some (.inl v4), some (.inl v5), some (.inl v6), some (.inl (v7 + 1)), none]) ?_ ?_
    · intro i v hv; match i, hv with
      | 0, hv => cases hv
      | 1, hv => exact hv
      | 2, hv => exact hv
      | 3, hv => exact hv
      | 4, hv => exact hv
      | 5, hv => exact hv
      | 6, hv => exact hv
      | 7, hv => exact hv
      | 8, hv => cases hv
      | n + 9, hv => cases hv
    exact K
  · replace K := K.2 c3
    refine mw_iload (pc' := 39) dX12_leastAround_37 rfl rfl ?_
    refine mw_iload (pc' := 41) dX12_leastAround_39 rfl rfl ?_
    refine mw_callS (pc' := 44) (b' := (0, 0)) (b1 := b) (av := [.inl v8, .inl v7]) (rest := []) dX12_leastAround_41 rfl lkX12_190 rfl rfl (Nat.le_of_ble_eq_true rfl) ⟨Nat.le_of_eq (Nat.zero_add _), Nat.le_of_eq (Nat.zero_add _)⟩ ?_
    refine pX12_isCell ?_
    refine mw_if_eq (pc' := 47) (tgt := 70) dX12_leastAround_44 rfl (by decide) (fun c2 => ?_) (fun c2 => ?_)
    · replace K := K.1 c2
      refine mw_iinc (pc' := 73) (v := v8 + 1) dX12_leastAround_70 rfl (by decide) rfl rfl ?_
      show mW _ _ _ _ _ [none, some (.inr (some a1)), some (.inl v2), some (.inl v3), some (.inl v4), some (.inl v5), some (.inl v6), some (.inl v7), some (.inl (v8 + 1))] _ _ _
      refine mw_goto (tgt := 28) dX12_leastAround_73 (by decide) ?_
      exact K
    · replace K := K.2 c2
      refine mw_iload (pc' := 49) dX12_leastAround_47 rfl rfl ?_
      refine mw_aload_n (pc' := 50) dX12_leastAround_49 rfl rfl ?_
      refine mw_sipush (pc' := 53) (v := 1024) dX12_leastAround_50 rfl (by decide) ?_
      refine mw_iload_n (pc' := 54) dX12_leastAround_53 rfl rfl ?_
      refine mw_imul (pc' := 55) dX12_leastAround_54 rfl ?_
      refine mw_bipush (pc' := 57) (v := 32) dX12_leastAround_55 rfl (by decide) ?_
      refine mw_iload (pc' := 59) dX12_leastAround_57 rfl rfl ?_
      refine mw_imul (pc' := 60) dX12_leastAround_59 rfl ?_
      refine mw_iadd (pc' := 61) dX12_leastAround_60 rfl ?_
      refine mw_iload (pc' := 63) dX12_leastAround_61 rfl rfl ?_
      refine mw_iadd (pc' := 64) dX12_leastAround_63 rfl ?_
      obtain ⟨o1, K⟩ := K
      refine mw_ialdL (pc' := 65) dX12_leastAround_64 rfl (ta1) (rfl) o1 ?_
      refine mw_callS (pc' := 68) (b' := (0, 0)) (b1 := b) (av := [.inl v6, .inl (mI h a1 (((1024 * v2) + (32 * v7)) + v8).toNatClampNeg)]) (rest := []) dX12_leastAround_65 rfl lkX12_363 rfl rfl (Nat.le_of_ble_eq_true rfl) ⟨Nat.le_of_eq (Nat.zero_add _), Nat.le_of_eq (Nat.zero_add _)⟩ ?_
      refine pX12_least ?_
      refine mw_istore (pc' := 70) dX12_leastAround_68 rfl (by decide) ?_
      show mW _ _ _ _ _ [none, some (.inr (some a1)), some (.inl v2), some (.inl v3), some (.inl v4), some (.inl v5), some (.inl (f_X12_least v6 (mI h a1 (((1024 * v2) + (32 * v7)) + v8).toNatClampNeg))), some (.inl v7), some (.inl v8)] _ _ _
      refine mw_iinc (pc' := 73) (v := v8 + 1) dX12_leastAround_70 rfl (by decide) rfl rfl ?_
      show mW _ _ _ _ _ [none, some (.inr (some a1)), some (.inl v2), some (.inl v3), some (.inl v4), some (.inl v5), some (.inl (f_X12_least v6 (mI h a1 (((1024 * v2) + (32 * v7)) + v8).toNatClampNeg))), some (.inl v7), some (.inl (v8 + 1))] _ _ _
      refine mw_goto (tgt := 28) dX12_leastAround_73 (by decide) ?_
      exact K

set_option maxRecDepth 100000 in
set_option maxHeartbeats 4000000 in
theorem qX12_isInBox {G : mG} {d : Nat} {b : Nat × Nat} {h : mH} {Q : Option mV → mH → Prop} (v1 : Int32) (hS : mSk h)
    (K : (((f_X12_in (m_rem v1 32) (mI h 47 35) (mI h 47 37)) = 0 → Q (some (.inl 0)) h) ∧ (¬ (f_X12_in (m_rem v1 32) (mI h 47 35) (mI h 47 37)) = 0 → ∀ w1 : Int32, w1 = (if (f_X12_in (v1 / 32) (mI h 47 36) (mI h 47 38)) = 0 then 0 else 1) → Q (some (.inl w1)) h))) : mC G kX12_isInBox (d + 1) b [.inr (some 47), .inl v1] h Q := by
  refine mC_in rfl (Nat.le_of_ble_eq_true rfl) ?_
  show mW _ _ _ _ _ [some (.inr (some 47)), some (.inl v1)] _ _ _
  refine mw_iload_n (pc' := 1) dX12_isInBox_0 rfl rfl ?_
  refine mw_bipush (pc' := 3) (v := 32) dX12_isInBox_1 rfl (by decide) ?_
  refine mw_iremM (pc' := 4) dX12_isInBox_3 rfl (by decide) ?_
  refine mw_aload_n (pc' := 5) dX12_isInBox_4 rfl rfl ?_
  refine mw_getI (pc' := 8) dX12_isInBox_5 rfl flX12_349 rfl (skT_47 hS) ?_
  refine mw_aload_n (pc' := 9) dX12_isInBox_8 rfl rfl ?_
  refine mw_getI (pc' := 12) dX12_isInBox_9 rfl flX12_147 rfl (skT_47 hS) ?_
  refine mw_callS (pc' := 15) (b' := (0, 0)) (b1 := b) (av := [.inl (m_rem v1 32), .inl (mI h 47 35), .inl (mI h 47 37)]) (rest := []) dX12_isInBox_12 rfl lkX12_173 rfl rfl (Nat.le_of_ble_eq_true rfl) ⟨Nat.le_of_eq (Nat.zero_add _), Nat.le_of_eq (Nat.zero_add _)⟩ ?_
  refine pX12_in ?_
  refine mw_if_eq (pc' := 18) (tgt := 40) dX12_isInBox_15 rfl (by decide) (fun c4 => ?_) (fun c4 => ?_)
  · replace K := K.1 c4
    refine mw_iconst (pc' := 41) (v := 0) dX12_isInBox_40 rfl (by decide) ?_
    exact mw_iret dX12_isInBox_41 rfl (by decide) K
  · replace K := K.2 c4
    refine mw_iload_n (pc' := 19) dX12_isInBox_18 rfl rfl ?_
    refine mw_bipush (pc' := 21) (v := 32) dX12_isInBox_19 rfl (by decide) ?_
    refine mw_idiv (pc' := 22) dX12_isInBox_21 rfl (by decide) ?_
    refine mw_aload_n (pc' := 23) dX12_isInBox_22 rfl rfl ?_
    refine mw_getI (pc' := 26) dX12_isInBox_23 rfl flX12_352 rfl (skT_47 hS) ?_
    refine mw_aload_n (pc' := 27) dX12_isInBox_26 rfl rfl ?_
    refine mw_getI (pc' := 30) dX12_isInBox_27 rfl flX12_151 rfl (skT_47 hS) ?_
    refine mw_callS (pc' := 33) (b' := (0, 0)) (b1 := b) (av := [.inl (v1 / 32), .inl (mI h 47 36), .inl (mI h 47 38)]) (rest := []) dX12_isInBox_30 rfl lkX12_173 rfl rfl (Nat.le_of_ble_eq_true rfl) ⟨Nat.le_of_eq (Nat.zero_add _), Nat.le_of_eq (Nat.zero_add _)⟩ ?_
    refine pX12_in ?_
    have J2 : ∀ w1 : Int32, w1 = (if (f_X12_in (v1 / 32) (mI h 47 36) (mI h 47 38)) = 0 then 0 else 1) → mW G kX12_isInBox (d + 1) b 41 [some (.inr (some 47)), some (.inl v1)] ([.inl w1]) h Q := by
      intro w1 ew1
      replace K := K w1 ew1
      exact mw_iret dX12_isInBox_41 rfl (m_boolN (by rw [ew1]; exact (m_boolI m_bool0 m_bool1))) K
    refine mw_if_eq (pc' := 36) (tgt := 40) dX12_isInBox_33 rfl (by decide) (fun c3 => ?_) (fun c3 => ?_)
    · refine mw_iconst (pc' := 41) (v := 0) dX12_isInBox_40 rfl (by decide) ?_
      exact J2 _ (by rw [if_pos c3])
    · refine mw_iconst (pc' := 37) (v := 1) dX12_isInBox_36 rfl (by decide) ?_
      refine mw_goto (tgt := 41) dX12_isInBox_37 (by decide) ?_
      exact J2 _ (by rw [if_neg c3])

set_option maxRecDepth 100000 in
set_option maxHeartbeats 4000000 in
theorem qX12_laysForth {G : mG} {d : Nat} {b : Nat × Nat} {h : mH} {Q : Option mV → mH → Prop}  (hS : mSk h)
    (K : mW G kX12_laysForth (d + 2) b 2 [some (.inr (some 47)), some (.inl 0), none, none] [] h Q) : mC G kX12_laysForth (d + 2) b [.inr (some 47)] h Q := by
  refine mC_in rfl (Nat.le_of_ble_eq_true rfl) ?_
  show mW _ _ _ _ _ [some (.inr (some 47)), none, none, none] _ _ _
  refine mw_iconst (pc' := 1) (v := 0) dX12_laysForth_0 rfl (by decide) ?_
  refine mw_istore_n (pc' := 2) dX12_laysForth_1 rfl (by decide) ?_
  show mW _ _ _ _ _ [some (.inr (some 47)), some (.inl 0), none, none] _ _ _
  exact K

set_option maxRecDepth 100000 in
set_option maxHeartbeats 4000000 in
theorem qX12_laysForth_2 {G : mG} {d : Nat} {b : Nat × Nat} {h : mH} {Q : Option mV → mH → Prop} (v1 : Int32) (hS : mSk h)
    (K : (((mI h 47 33) ≤ v1 → Q none h) ∧ (¬ ((mI h 47 33) ≤ v1) → mW G kX12_laysForth (d + 2) b 12 [some (.inr (some 47)), some (.inl v1), some (.inl 0), none] [] h Q))) : mW G kX12_laysForth (d + 2) b 2 [some (.inr (some 47)), some (.inl v1), none, none] [] h Q := by
  refine mw_iload_n (pc' := 3) dX12_laysForth_2 rfl rfl ?_
  refine mw_aload_n (pc' := 4) dX12_laysForth_3 rfl rfl ?_
  refine mw_getI (pc' := 7) dX12_laysForth_4 rfl flX12_340 rfl (skT_47 hS) ?_
  refine mw_icmp_ge (pc' := 10) (tgt := 121) dX12_laysForth_7 rfl (by decide) (fun c1 => ?_) (fun c1 => ?_)
  · replace K := K.1 c1
    exact mw_ret dX12_laysForth_121 rfl K
  · replace K := K.2 c1
    refine mw_iconst (pc' := 11) (v := 0) dX12_laysForth_10 rfl (by decide) ?_
    refine mw_istore_n (pc' := 12) dX12_laysForth_11 rfl (by decide) ?_
    show mW _ _ _ _ _ [some (.inr (some 47)), some (.inl v1), some (.inl 0), none] _ _ _
    exact K

set_option maxRecDepth 100000 in
set_option maxHeartbeats 4000000 in
theorem qX12_laysForth_12 {G : mG} {d : Nat} {b : Nat × Nat} {h : mH} {Q : Option mV → mH → Prop} (v1 : Int32) (v2 : Int32) (hS : mSk h)
    (K : ((1024 ≤ v2 → mW G kX12_laysForth (d + 2) b 2 [some (.inr (some 47)), some (.inl (v1 + 1)), none, none] [] h Q) ∧ (¬ (1024 ≤ v2) → ((¬ v1 = 0 → vp_in v1 12 ∧ vp_in v1 12 ∧ vp_in v1 12 ∧ mC G kX12_leastAround (d + 1) (0, 0) [.inr (some 47), .inr (some 79), .inl (v1 - 1), .inl ((m_rem v2 32) - (mI h 69 v1.toNatClampNeg)), .inl ((v2 / 32) - (mI h 70 v1.toNatClampNeg)), .inl (mI h 71 v1.toNatClampNeg)] h (fun r h4 => ∃ x5, r = some (.inl x5) ∧ mSk h4 ∧ vp_in ((1024 * v1) + v2) 12288 ∧ vp_in ((1024 * v1) + v2) 12288 ∧ ∀ h8, h8 = mSI h4 79 ((1024 * v1) + v2).toNatClampNeg (f_X12_sum x5 (mI h4 78 ((1024 * v1) + v2).toNatClampNeg)) → mW G kX12_laysForth (d + 2) b 12 [some (.inr (some 47)), some (.inl v1), some (.inl (v2 + 1)), none] [] h8 Q)) ∧ (v1 = 0 → mC G kX12_isInBox (d + 1) (0, 0) [.inr (some 47), .inl v2] h (fun r h9 => ∃ x10, r = some (.inl x10) ∧ mSk h9 ∧ ((x10 = 0 → vp_in ((1024 * v1) + v2) 12288 ∧ vp_in ((1024 * v1) + v2) 12288 ∧ ∀ h13, h13 = mSI h9 79 ((1024 * v1) + v2).toNatClampNeg (f_X12_sum 1000000000 (mI h9 78 ((1024 * v1) + v2).toNatClampNeg)) → mW G kX12_laysForth (d + 2) b 12 [some (.inr (some 47)), some (.inl v1), some (.inl (v2 + 1)), none] [] h13 Q) ∧ (¬ x10 = 0 → vp_in ((1024 * v1) + v2) 12288 ∧ vp_in ((1024 * v1) + v2) 12288 ∧ ∀ h16, h16 = mSI h9 79 ((1024 * v1) + v2).toNatClampNeg (f_X12_sum 0 (mI h9 78 ((1024 * v1) + v2).toNatClampNeg)) → mW G kX12_laysForth (d + 2) b 12 [some (.inr (some 47)), some (.inl v1), some (.inl (v2 + 1)), none] [] h16 Q)))))))) : mW G kX12_laysForth (d + 2) b 12 [some (.inr (some 47)), some (.inl v1), some (.inl v2), none] [] h Q := by
  refine mw_iload_n (pc' := 13) dX12_laysForth_12 rfl rfl ?_
  refine mw_sipush (pc' := 16) (v := 1024) dX12_laysForth_13 rfl (by decide) ?_
  refine mw_icmp_ge (pc' := 19) (tgt := 115) dX12_laysForth_16 rfl (by decide) (fun c19 => ?_) (fun c19 => ?_)
  · replace K := K.1 c19
    refine mw_iinc (pc' := 118) (v := v1 + 1) dX12_laysForth_115 rfl (by decide) rfl rfl ?_
    show mW _ _ _ _ _ [some (.inr (some 47)), some (.inl (v1 + 1)), some (.inl v2), none] _ _ _
    refine mw_goto (tgt := 2) dX12_laysForth_118 (by decide) ?_
    refine mw_weak (ls' := [some (.inr (some 47)), some (.inl (v1 + 1)), none, none]) ?_ ?_
    · intro i v hv; match i, hv with
      | 0, hv => exact hv
      | 1, hv => exact hv
      | 2, hv => cases hv
      | 3, hv => cases hv
      | n + 4, hv => cases hv
    exact K
  · replace K := K.2 c19
    refine mw_iload_n (pc' := 20) dX12_laysForth_19 rfl rfl ?_
    refine mw_if_ne (pc' := 23) (tgt := 41) dX12_laysForth_20 rfl (by decide) (fun c18 => ?_) (fun c18 => ?_)
    · replace K := K.1 c18
      refine mw_aload_n (pc' := 42) dX12_laysForth_41 rfl rfl ?_
      refine mw_aload_n (pc' := 43) dX12_laysForth_42 rfl rfl ?_
      refine mw_getR (pc' := 46) dX12_laysForth_43 rfl flX12_105 rfl (skT_47 hS) ?_
      rw [skR_47_49 hS]
      refine mw_iload_n (pc' := 47) dX12_laysForth_46 rfl rfl ?_
      refine mw_iconst (pc' := 48) (v := 1) dX12_laysForth_47 rfl (by decide) ?_
      refine mw_isub (pc' := 49) dX12_laysForth_48 rfl ?_
      refine mw_iload_n (pc' := 50) dX12_laysForth_49 rfl rfl ?_
      refine mw_bipush (pc' := 52) (v := 32) dX12_laysForth_50 rfl (by decide) ?_
      refine mw_iremM (pc' := 53) dX12_laysForth_52 rfl (by decide) ?_
      refine mw_aload_n (pc' := 54) dX12_laysForth_53 rfl rfl ?_
      refine mw_getR (pc' := 57) dX12_laysForth_54 rfl flX12_75 rfl (skT_47 hS) ?_
      rw [skR_47_39 hS]
      refine mw_iload_n (pc' := 58) dX12_laysForth_57 rfl rfl ?_
      obtain ⟨o1, K⟩ := K
      refine mw_ialdL (pc' := 59) dX12_laysForth_58 rfl (skT_69 hS) (skL_69 hS) o1 ?_
      refine mw_isub (pc' := 60) dX12_laysForth_59 rfl ?_
      refine mw_iload_n (pc' := 61) dX12_laysForth_60 rfl rfl ?_
      refine mw_bipush (pc' := 63) (v := 32) dX12_laysForth_61 rfl (by decide) ?_
      refine mw_idiv (pc' := 64) dX12_laysForth_63 rfl (by decide) ?_
      refine mw_aload_n (pc' := 65) dX12_laysForth_64 rfl rfl ?_
      refine mw_getR (pc' := 68) dX12_laysForth_65 rfl flX12_78 rfl (skT_47 hS) ?_
      rw [skR_47_40 hS]
      refine mw_iload_n (pc' := 69) dX12_laysForth_68 rfl rfl ?_
      obtain ⟨o2, K⟩ := K
      refine mw_ialdL (pc' := 70) dX12_laysForth_69 rfl (skT_70 hS) (skL_70 hS) o2 ?_
      refine mw_isub (pc' := 71) dX12_laysForth_70 rfl ?_
      refine mw_aload_n (pc' := 72) dX12_laysForth_71 rfl rfl ?_
      refine mw_getR (pc' := 75) dX12_laysForth_72 rfl flX12_81 rfl (skT_47 hS) ?_
      rw [skR_47_41 hS]
      refine mw_iload_n (pc' := 76) dX12_laysForth_75 rfl rfl ?_
      obtain ⟨o3, K⟩ := K
      refine mw_ialdL (pc' := 77) dX12_laysForth_76 rfl (skT_71 hS) (skL_71 hS) o3 ?_
      refine mw_callV (pc' := 80) (b' := (0, 0)) (b1 := b) (av := [.inr (some 79), .inl (v1 - 1), .inl ((m_rem v2 32) - (mI h 69 v1.toNatClampNeg)), .inl ((v2 / 32) - (mI h 70 v1.toNatClampNeg)), .inl (mI h 71 v1.toNatClampNeg)]) (rest := []) dX12_laysForth_77 rfl lkX12_369 rfl rfl (Nat.le_of_ble_eq_true rfl) ⟨Nat.le_of_eq (Nat.zero_add _), Nat.le_of_eq (Nat.zero_add _)⟩ (skT_47 hS) ?_
      refine mC_mono (fun r h4 hr => ?_) K
      obtain ⟨x5, rfl, hS, K⟩ := hr
      show mW _ _ _ _ _ _ [.inl x5] _ _
      refine mw_istore_n (pc' := 81) dX12_laysForth_80 rfl (by decide) ?_
      show mW _ _ _ _ _ [some (.inr (some 47)), some (.inl v1), some (.inl v2), some (.inl x5)] _ _ _
      refine mw_aload_n (pc' := 82) dX12_laysForth_81 rfl rfl ?_
      refine mw_getR (pc' := 85) dX12_laysForth_82 rfl flX12_105 rfl (skT_47 hS) ?_
      rw [skR_47_49 hS]
      refine mw_sipush (pc' := 88) (v := 1024) dX12_laysForth_85 rfl (by decide) ?_
      refine mw_iload_n (pc' := 89) dX12_laysForth_88 rfl rfl ?_
      refine mw_imul (pc' := 90) dX12_laysForth_89 rfl ?_
      refine mw_iload_n (pc' := 91) dX12_laysForth_90 rfl rfl ?_
      refine mw_iadd (pc' := 92) dX12_laysForth_91 rfl ?_
      refine mw_iload_n (pc' := 93) dX12_laysForth_92 rfl rfl ?_
      refine mw_aload_n (pc' := 94) dX12_laysForth_93 rfl rfl ?_
      refine mw_getR (pc' := 97) dX12_laysForth_94 rfl flX12_102 rfl (skT_47 hS) ?_
      rw [skR_47_48 hS]
      refine mw_sipush (pc' := 100) (v := 1024) dX12_laysForth_97 rfl (by decide) ?_
      refine mw_iload_n (pc' := 101) dX12_laysForth_100 rfl rfl ?_
      refine mw_imul (pc' := 102) dX12_laysForth_101 rfl ?_
      refine mw_iload_n (pc' := 103) dX12_laysForth_102 rfl rfl ?_
      refine mw_iadd (pc' := 104) dX12_laysForth_103 rfl ?_
      obtain ⟨o6, K⟩ := K
      refine mw_ialdL (pc' := 105) dX12_laysForth_104 rfl (skT_78 hS) (skL_78 hS) o6 ?_
      refine mw_callS (pc' := 108) (b' := (0, 0)) (b1 := b) (av := [.inl x5, .inl (mI h4 78 ((1024 * v1) + v2).toNatClampNeg)]) (rest := [.inl ((1024 * v1) + v2), .inr (some 79)]) dX12_laysForth_105 rfl lkX12_373 rfl rfl (Nat.le_of_ble_eq_true rfl) ⟨Nat.le_of_eq (Nat.zero_add _), Nat.le_of_eq (Nat.zero_add _)⟩ ?_
      refine pX12_sum ?_
      obtain ⟨o7, K⟩ := K
      refine mw_iastK (pc' := 109) dX12_laysForth_108 rfl (skT_79 hS) (skL_79 hS) o7 hS (fun h8 eh8 hS => ?_)
      replace K := K h8 eh8
      refine mw_iinc (pc' := 112) (v := v2 + 1) dX12_laysForth_109 rfl (by decide) rfl rfl ?_
      show mW _ _ _ _ _ [some (.inr (some 47)), some (.inl v1), some (.inl (v2 + 1)), some (.inl x5)] _ _ _
      refine mw_goto (tgt := 12) dX12_laysForth_112 (by decide) ?_
      refine mw_weak (ls' := [some (.inr (some 47)), some (.inl v1), some (.inl (v2 + 1)), none]) ?_ ?_
      · intro i v hv; match i, hv with
        | 0, hv => exact hv
        | 1, hv => exact hv
        | 2, hv => exact hv
        | 3, hv => cases hv
        | n + 4, hv => cases hv
      exact K
    · replace K := K.2 c18
      refine mw_aload_n (pc' := 24) dX12_laysForth_23 rfl rfl ?_
      refine mw_iload_n (pc' := 25) dX12_laysForth_24 rfl rfl ?_
      refine mw_callV (pc' := 28) (b' := (0, 0)) (b1 := b) (av := [.inl v2]) (rest := []) dX12_laysForth_25 rfl lkX12_366 rfl rfl (Nat.le_of_ble_eq_true rfl) ⟨Nat.le_of_eq (Nat.zero_add _), Nat.le_of_eq (Nat.zero_add _)⟩ (skT_47 hS) ?_
      refine mC_mono (fun r h9 hr => ?_) K
      obtain ⟨x10, rfl, hS, K⟩ := hr
      show mW _ _ _ _ _ _ [.inl x10] _ _
      refine mw_if_eq (pc' := 31) (tgt := 35) dX12_laysForth_28 rfl (by decide) (fun c17 => ?_) (fun c17 => ?_)
      · replace K := K.1 c17
        refine mw_ldcw (pc' := 38) dX12_laysForth_35 rfl cnX12_359 ?_
        refine mw_goto (tgt := 80) dX12_laysForth_38 (by decide) ?_
        refine mw_istore_n (pc' := 81) dX12_laysForth_80 rfl (by decide) ?_
        show mW _ _ _ _ _ [some (.inr (some 47)), some (.inl v1), some (.inl v2), some (.inl 1000000000)] _ _ _
        refine mw_aload_n (pc' := 82) dX12_laysForth_81 rfl rfl ?_
        refine mw_getR (pc' := 85) dX12_laysForth_82 rfl flX12_105 rfl (skT_47 hS) ?_
        rw [skR_47_49 hS]
        refine mw_sipush (pc' := 88) (v := 1024) dX12_laysForth_85 rfl (by decide) ?_
        refine mw_iload_n (pc' := 89) dX12_laysForth_88 rfl rfl ?_
        refine mw_imul (pc' := 90) dX12_laysForth_89 rfl ?_
        refine mw_iload_n (pc' := 91) dX12_laysForth_90 rfl rfl ?_
        refine mw_iadd (pc' := 92) dX12_laysForth_91 rfl ?_
        refine mw_iload_n (pc' := 93) dX12_laysForth_92 rfl rfl ?_
        refine mw_aload_n (pc' := 94) dX12_laysForth_93 rfl rfl ?_
        refine mw_getR (pc' := 97) dX12_laysForth_94 rfl flX12_102 rfl (skT_47 hS) ?_
        rw [skR_47_48 hS]
        refine mw_sipush (pc' := 100) (v := 1024) dX12_laysForth_97 rfl (by decide) ?_
        refine mw_iload_n (pc' := 101) dX12_laysForth_100 rfl rfl ?_
        refine mw_imul (pc' := 102) dX12_laysForth_101 rfl ?_
        refine mw_iload_n (pc' := 103) dX12_laysForth_102 rfl rfl ?_
        refine mw_iadd (pc' := 104) dX12_laysForth_103 rfl ?_
        obtain ⟨o11, K⟩ := K
        refine mw_ialdL (pc' := 105) dX12_laysForth_104 rfl (skT_78 hS) (skL_78 hS) o11 ?_
        refine mw_callS (pc' := 108) (b' := (0, 0)) (b1 := b) (av := [.inl 1000000000, .inl (mI h9 78 ((1024 * v1) + v2).toNatClampNeg)]) (rest := [.inl ((1024 * v1) + v2), .inr (some 79)]) dX12_laysForth_105 rfl lkX12_373 rfl rfl (Nat.le_of_ble_eq_true rfl) ⟨Nat.le_of_eq (Nat.zero_add _), Nat.le_of_eq (Nat.zero_add _)⟩ ?_
        refine pX12_sum ?_
        obtain ⟨o12, K⟩ := K
        refine mw_iastK (pc' := 109) dX12_laysForth_108 rfl (skT_79 hS) (skL_79 hS) o12 hS (fun h13 eh13 hS => ?_)
        replace K := K h13 eh13
        refine mw_iinc (pc' := 112) (v := v2 + 1) dX12_laysForth_109 rfl (by decide) rfl rfl ?_
        show mW _ _ _ _ _ [some (.inr (some 47)), some (.inl v1), some (.inl (v2 + 1)), some (.inl 1000000000)] _ _ _
        refine mw_goto (tgt := 12) dX12_laysForth_112 (by decide) ?_
        refine mw_weak (ls' := [some (.inr (some 47)), some (.inl v1), some (.inl (v2 + 1)), none]) ?_ ?_
        · intro i v hv; match i, hv with
          | 0, hv => exact hv
          | 1, hv => exact hv
          | 2, hv => exact hv
          | 3, hv => cases hv
          | n + 4, hv => cases hv
        exact K
      · replace K := K.2 c17
        refine mw_iconst (pc' := 32) (v := 0) dX12_laysForth_31 rfl (by decide) ?_
        refine mw_goto (tgt := 80) dX12_laysForth_32 (by decide) ?_
        refine mw_istore_n (pc' := 81) dX12_laysForth_80 rfl (by decide) ?_
        show mW _ _ _ _ _ [some (.inr (some 47)), some (.inl v1), some (.inl v2), some (.inl 0)] _ _ _
        refine mw_aload_n (pc' := 82) dX12_laysForth_81 rfl rfl ?_
        refine mw_getR (pc' := 85) dX12_laysForth_82 rfl flX12_105 rfl (skT_47 hS) ?_
        rw [skR_47_49 hS]
        refine mw_sipush (pc' := 88) (v := 1024) dX12_laysForth_85 rfl (by decide) ?_
        refine mw_iload_n (pc' := 89) dX12_laysForth_88 rfl rfl ?_
        refine mw_imul (pc' := 90) dX12_laysForth_89 rfl ?_
        refine mw_iload_n (pc' := 91) dX12_laysForth_90 rfl rfl ?_
        refine mw_iadd (pc' := 92) dX12_laysForth_91 rfl ?_
        refine mw_iload_n (pc' := 93) dX12_laysForth_92 rfl rfl ?_
        refine mw_aload_n (pc' := 94) dX12_laysForth_93 rfl rfl ?_
        refine mw_getR (pc' := 97) dX12_laysForth_94 rfl flX12_102 rfl (skT_47 hS) ?_
        rw [skR_47_48 hS]
        refine mw_sipush (pc' := 100) (v := 1024) dX12_laysForth_97 rfl (by decide) ?_
        refine mw_iload_n (pc' := 101) dX12_laysForth_100 rfl rfl ?_
        refine mw_imul (pc' := 102) dX12_laysForth_101 rfl ?_
        refine mw_iload_n (pc' := 103) dX12_laysForth_102 rfl rfl ?_
        refine mw_iadd (pc' := 104) dX12_laysForth_103 rfl ?_
        obtain ⟨o14, K⟩ := K
        refine mw_ialdL (pc' := 105) dX12_laysForth_104 rfl (skT_78 hS) (skL_78 hS) o14 ?_
        refine mw_callS (pc' := 108) (b' := (0, 0)) (b1 := b) (av := [.inl 0, .inl (mI h9 78 ((1024 * v1) + v2).toNatClampNeg)]) (rest := [.inl ((1024 * v1) + v2), .inr (some 79)]) dX12_laysForth_105 rfl lkX12_373 rfl rfl (Nat.le_of_ble_eq_true rfl) ⟨Nat.le_of_eq (Nat.zero_add _), Nat.le_of_eq (Nat.zero_add _)⟩ ?_
        refine pX12_sum ?_
        obtain ⟨o15, K⟩ := K
        refine mw_iastK (pc' := 109) dX12_laysForth_108 rfl (skT_79 hS) (skL_79 hS) o15 hS (fun h16 eh16 hS => ?_)
        replace K := K h16 eh16
        refine mw_iinc (pc' := 112) (v := v2 + 1) dX12_laysForth_109 rfl (by decide) rfl rfl ?_
        show mW _ _ _ _ _ [some (.inr (some 47)), some (.inl v1), some (.inl (v2 + 1)), some (.inl 0)] _ _ _
        refine mw_goto (tgt := 12) dX12_laysForth_112 (by decide) ?_
        refine mw_weak (ls' := [some (.inr (some 47)), some (.inl v1), some (.inl (v2 + 1)), none]) ?_ ?_
        · intro i v hv; match i, hv with
          | 0, hv => exact hv
          | 1, hv => exact hv
          | 2, hv => exact hv
          | 3, hv => cases hv
          | n + 4, hv => cases hv
        exact K

set_option maxRecDepth 100000 in
set_option maxHeartbeats 4000000 in
theorem qX12_laysBehind {G : mG} {d : Nat} {b : Nat × Nat} {h : mH} {Q : Option mV → mH → Prop}  (hS : mSk h)
    (K : mW G kX12_laysBehind (d + 2) b 7 [some (.inr (some 47)), some (.inl ((mI h 47 33) - 1)), none, none] [] h Q) : mC G kX12_laysBehind (d + 2) b [.inr (some 47)] h Q := by
  refine mC_in rfl (Nat.le_of_ble_eq_true rfl) ?_
  show mW _ _ _ _ _ [some (.inr (some 47)), none, none, none] _ _ _
  refine mw_aload_n (pc' := 1) dX12_laysBehind_0 rfl rfl ?_
  refine mw_getI (pc' := 4) dX12_laysBehind_1 rfl flX12_340 rfl (skT_47 hS) ?_
  refine mw_iconst (pc' := 5) (v := 1) dX12_laysBehind_4 rfl (by decide) ?_
  refine mw_isub (pc' := 6) dX12_laysBehind_5 rfl ?_
  refine mw_istore_n (pc' := 7) dX12_laysBehind_6 rfl (by decide) ?_
  show mW _ _ _ _ _ [some (.inr (some 47)), some (.inl ((mI h 47 33) - 1)), none, none] _ _ _
  exact K

set_option maxRecDepth 100000 in
set_option maxHeartbeats 4000000 in
theorem qX12_laysBehind_7 {G : mG} {d : Nat} {b : Nat × Nat} {h : mH} {Q : Option mV → mH → Prop} (v1 : Int32) (hS : mSk h)
    (K : ((v1 < 0 → Q none h) ∧ (¬ (v1 < 0) → mW G kX12_laysBehind (d + 2) b 13 [some (.inr (some 47)), some (.inl v1), some (.inl 0), none] [] h Q))) : mW G kX12_laysBehind (d + 2) b 7 [some (.inr (some 47)), some (.inl v1), none, none] [] h Q := by
  refine mw_iload_n (pc' := 8) dX12_laysBehind_7 rfl rfl ?_
  refine mw_if_lt (pc' := 11) (tgt := 120) dX12_laysBehind_8 rfl (by decide) (fun c1 => ?_) (fun c1 => ?_)
  · replace K := K.1 c1
    exact mw_ret dX12_laysBehind_120 rfl K
  · replace K := K.2 c1
    refine mw_iconst (pc' := 12) (v := 0) dX12_laysBehind_11 rfl (by decide) ?_
    refine mw_istore_n (pc' := 13) dX12_laysBehind_12 rfl (by decide) ?_
    show mW _ _ _ _ _ [some (.inr (some 47)), some (.inl v1), some (.inl 0), none] _ _ _
    exact K

set_option maxRecDepth 100000 in
set_option maxHeartbeats 4000000 in
theorem qX12_laysBehind_13 {G : mG} {d : Nat} {b : Nat × Nat} {h : mH} {Q : Option mV → mH → Prop} (v1 : Int32) (v2 : Int32) (hS : mSk h)
    (K : ((1024 ≤ v2 → mW G kX12_laysBehind (d + 2) b 7 [some (.inr (some 47)), some (.inl (v1 + (-1))), none, none] [] h Q) ∧ (¬ (1024 ≤ v2) → ((¬ v1 = ((mI h 47 33) - 1) → vp_in (v1 + 1) 12 ∧ vp_in (v1 + 1) 12 ∧ vp_in (v1 + 1) 12 ∧ mC G kX12_leastAround (d + 1) (0, 0) [.inr (some 47), .inr (some 80), .inl (v1 + 1), .inl ((m_rem v2 32) + (mI h 69 (v1 + 1).toNatClampNeg)), .inl ((v2 / 32) + (mI h 70 (v1 + 1).toNatClampNeg)), .inl (mI h 71 (v1 + 1).toNatClampNeg)] h (fun r h4 => ∃ x5, r = some (.inl x5) ∧ mSk h4 ∧ vp_in ((1024 * v1) + v2) 12288 ∧ vp_in ((1024 * v1) + v2) 12288 ∧ ∀ h8, h8 = mSI h4 80 ((1024 * v1) + v2).toNatClampNeg (f_X12_sum x5 (mI h4 78 ((1024 * v1) + v2).toNatClampNeg)) → mW G kX12_laysBehind (d + 2) b 13 [some (.inr (some 47)), some (.inl v1), some (.inl (v2 + 1)), none] [] h8 Q)) ∧ (v1 = ((mI h 47 33) - 1) → vp_in ((1024 * v1) + v2) 12288 ∧ vp_in ((1024 * v1) + v2) 12288 ∧ ∀ h11, h11 = mSI h 80 ((1024 * v1) + v2).toNatClampNeg (f_X12_sum 0 (mI h 78 ((1024 * v1) + v2).toNatClampNeg)) → mW G kX12_laysBehind (d + 2) b 13 [some (.inr (some 47)), some (.inl v1), some (.inl (v2 + 1)), none] [] h11 Q))))) : mW G kX12_laysBehind (d + 2) b 13 [some (.inr (some 47)), some (.inl v1), some (.inl v2), none] [] h Q := by
  refine mw_iload_n (pc' := 14) dX12_laysBehind_13 rfl rfl ?_
  refine mw_sipush (pc' := 17) (v := 1024) dX12_laysBehind_14 rfl (by decide) ?_
  refine mw_icmp_ge (pc' := 20) (tgt := 114) dX12_laysBehind_17 rfl (by decide) (fun c13 => ?_) (fun c13 => ?_)
  · replace K := K.1 c13
    refine mw_iinc (pc' := 117) (v := v1 + (-1)) dX12_laysBehind_114 rfl (by decide) rfl rfl ?_
    show mW _ _ _ _ _ [some (.inr (some 47)), some (.inl (v1 + (-1))), some (.inl v2), none] _ _ _
    refine mw_goto (tgt := 7) dX12_laysBehind_117 (by decide) ?_
    refine mw_weak (ls' := [some (.inr (some 47)), some (.inl (v1 + (-1))), none, none]) ?_ ?_
    · intro i v hv; match i, hv with
      | 0, hv => exact hv
      | 1, hv => exact hv
      | 2, hv => cases hv
      | 3, hv => cases hv
      | n + 4, hv => cases hv
    exact K
  · replace K := K.2 c13
    refine mw_iload_n (pc' := 21) dX12_laysBehind_20 rfl rfl ?_
    refine mw_aload_n (pc' := 22) dX12_laysBehind_21 rfl rfl ?_
    refine mw_getI (pc' := 25) dX12_laysBehind_22 rfl flX12_340 rfl (skT_47 hS) ?_
    refine mw_iconst (pc' := 26) (v := 1) dX12_laysBehind_25 rfl (by decide) ?_
    refine mw_isub (pc' := 27) dX12_laysBehind_26 rfl ?_
    refine mw_icmp_ne (pc' := 30) (tgt := 34) dX12_laysBehind_27 rfl (by decide) (fun c12 => ?_) (fun c12 => ?_)
    · replace K := K.1 c12
      refine mw_aload_n (pc' := 35) dX12_laysBehind_34 rfl rfl ?_
      refine mw_aload_n (pc' := 36) dX12_laysBehind_35 rfl rfl ?_
      refine mw_getR (pc' := 39) dX12_laysBehind_36 rfl flX12_108 rfl (skT_47 hS) ?_
      rw [skR_47_50 hS]
      refine mw_iload_n (pc' := 40) dX12_laysBehind_39 rfl rfl ?_
      refine mw_iconst (pc' := 41) (v := 1) dX12_laysBehind_40 rfl (by decide) ?_
      refine mw_iadd (pc' := 42) dX12_laysBehind_41 rfl ?_
      refine mw_iload_n (pc' := 43) dX12_laysBehind_42 rfl rfl ?_
      refine mw_bipush (pc' := 45) (v := 32) dX12_laysBehind_43 rfl (by decide) ?_
      refine mw_iremM (pc' := 46) dX12_laysBehind_45 rfl (by decide) ?_
      refine mw_aload_n (pc' := 47) dX12_laysBehind_46 rfl rfl ?_
      refine mw_getR (pc' := 50) dX12_laysBehind_47 rfl flX12_75 rfl (skT_47 hS) ?_
      rw [skR_47_39 hS]
      refine mw_iload_n (pc' := 51) dX12_laysBehind_50 rfl rfl ?_
      refine mw_iconst (pc' := 52) (v := 1) dX12_laysBehind_51 rfl (by decide) ?_
      refine mw_iadd (pc' := 53) dX12_laysBehind_52 rfl ?_
      obtain ⟨o1, K⟩ := K
      refine mw_ialdL (pc' := 54) dX12_laysBehind_53 rfl (skT_69 hS) (skL_69 hS) o1 ?_
      refine mw_iadd (pc' := 55) dX12_laysBehind_54 rfl ?_
      refine mw_iload_n (pc' := 56) dX12_laysBehind_55 rfl rfl ?_
      refine mw_bipush (pc' := 58) (v := 32) dX12_laysBehind_56 rfl (by decide) ?_
      refine mw_idiv (pc' := 59) dX12_laysBehind_58 rfl (by decide) ?_
      refine mw_aload_n (pc' := 60) dX12_laysBehind_59 rfl rfl ?_
      refine mw_getR (pc' := 63) dX12_laysBehind_60 rfl flX12_78 rfl (skT_47 hS) ?_
      rw [skR_47_40 hS]
      refine mw_iload_n (pc' := 64) dX12_laysBehind_63 rfl rfl ?_
      refine mw_iconst (pc' := 65) (v := 1) dX12_laysBehind_64 rfl (by decide) ?_
      refine mw_iadd (pc' := 66) dX12_laysBehind_65 rfl ?_
      obtain ⟨o2, K⟩ := K
      refine mw_ialdL (pc' := 67) dX12_laysBehind_66 rfl (skT_70 hS) (skL_70 hS) o2 ?_
      refine mw_iadd (pc' := 68) dX12_laysBehind_67 rfl ?_
      refine mw_aload_n (pc' := 69) dX12_laysBehind_68 rfl rfl ?_
      refine mw_getR (pc' := 72) dX12_laysBehind_69 rfl flX12_81 rfl (skT_47 hS) ?_
      rw [skR_47_41 hS]
      refine mw_iload_n (pc' := 73) dX12_laysBehind_72 rfl rfl ?_
      refine mw_iconst (pc' := 74) (v := 1) dX12_laysBehind_73 rfl (by decide) ?_
      refine mw_iadd (pc' := 75) dX12_laysBehind_74 rfl ?_
      obtain ⟨o3, K⟩ := K
      refine mw_ialdL (pc' := 76) dX12_laysBehind_75 rfl (skT_71 hS) (skL_71 hS) o3 ?_
      refine mw_callV (pc' := 79) (b' := (0, 0)) (b1 := b) (av := [.inr (some 80), .inl (v1 + 1), .inl ((m_rem v2 32) + (mI h 69 (v1 + 1).toNatClampNeg)), .inl ((v2 / 32) + (mI h 70 (v1 + 1).toNatClampNeg)), .inl (mI h 71 (v1 + 1).toNatClampNeg)]) (rest := []) dX12_laysBehind_76 rfl lkX12_369 rfl rfl (Nat.le_of_ble_eq_true rfl) ⟨Nat.le_of_eq (Nat.zero_add _), Nat.le_of_eq (Nat.zero_add _)⟩ (skT_47 hS) ?_
      refine mC_mono (fun r h4 hr => ?_) K
      obtain ⟨x5, rfl, hS, K⟩ := hr
      show mW _ _ _ _ _ _ [.inl x5] _ _
      refine mw_istore_n (pc' := 80) dX12_laysBehind_79 rfl (by decide) ?_
      show mW _ _ _ _ _ [some (.inr (some 47)), some (.inl v1), some (.inl v2), some (.inl x5)] _ _ _
      refine mw_aload_n (pc' := 81) dX12_laysBehind_80 rfl rfl ?_
      refine mw_getR (pc' := 84) dX12_laysBehind_81 rfl flX12_108 rfl (skT_47 hS) ?_
      rw [skR_47_50 hS]
      refine mw_sipush (pc' := 87) (v := 1024) dX12_laysBehind_84 rfl (by decide) ?_
      refine mw_iload_n (pc' := 88) dX12_laysBehind_87 rfl rfl ?_
      refine mw_imul (pc' := 89) dX12_laysBehind_88 rfl ?_
      refine mw_iload_n (pc' := 90) dX12_laysBehind_89 rfl rfl ?_
      refine mw_iadd (pc' := 91) dX12_laysBehind_90 rfl ?_
      refine mw_iload_n (pc' := 92) dX12_laysBehind_91 rfl rfl ?_
      refine mw_aload_n (pc' := 93) dX12_laysBehind_92 rfl rfl ?_
      refine mw_getR (pc' := 96) dX12_laysBehind_93 rfl flX12_102 rfl (skT_47 hS) ?_
      rw [skR_47_48 hS]
      refine mw_sipush (pc' := 99) (v := 1024) dX12_laysBehind_96 rfl (by decide) ?_
      refine mw_iload_n (pc' := 100) dX12_laysBehind_99 rfl rfl ?_
      refine mw_imul (pc' := 101) dX12_laysBehind_100 rfl ?_
      refine mw_iload_n (pc' := 102) dX12_laysBehind_101 rfl rfl ?_
      refine mw_iadd (pc' := 103) dX12_laysBehind_102 rfl ?_
      obtain ⟨o6, K⟩ := K
      refine mw_ialdL (pc' := 104) dX12_laysBehind_103 rfl (skT_78 hS) (skL_78 hS) o6 ?_
      refine mw_callS (pc' := 107) (b' := (0, 0)) (b1 := b) (av := [.inl x5, .inl (mI h4 78 ((1024 * v1) + v2).toNatClampNeg)]) (rest := [.inl ((1024 * v1) + v2), .inr (some 80)]) dX12_laysBehind_104 rfl lkX12_373 rfl rfl (Nat.le_of_ble_eq_true rfl) ⟨Nat.le_of_eq (Nat.zero_add _), Nat.le_of_eq (Nat.zero_add _)⟩ ?_
      refine pX12_sum ?_
      obtain ⟨o7, K⟩ := K
      refine mw_iastK (pc' := 108) dX12_laysBehind_107 rfl (skT_80 hS) (skL_80 hS) o7 hS (fun h8 eh8 hS => ?_)
      replace K := K h8 eh8
      refine mw_iinc (pc' := 111) (v := v2 + 1) dX12_laysBehind_108 rfl (by decide) rfl rfl ?_
      show mW _ _ _ _ _ [some (.inr (some 47)), some (.inl v1), some (.inl (v2 + 1)), some (.inl x5)] _ _ _
      refine mw_goto (tgt := 13) dX12_laysBehind_111 (by decide) ?_
      refine mw_weak (ls' := [some (.inr (some 47)), some (.inl v1), some (.inl (v2 + 1)), none]) ?_ ?_
      · intro i v hv; match i, hv with
        | 0, hv => exact hv
        | 1, hv => exact hv
        | 2, hv => exact hv
        | 3, hv => cases hv
        | n + 4, hv => cases hv
      exact K
    · replace K := K.2 c12
      refine mw_iconst (pc' := 31) (v := 0) dX12_laysBehind_30 rfl (by decide) ?_
      refine mw_goto (tgt := 79) dX12_laysBehind_31 (by decide) ?_
      refine mw_istore_n (pc' := 80) dX12_laysBehind_79 rfl (by decide) ?_
      show mW _ _ _ _ _ [some (.inr (some 47)), some (.inl v1), some (.inl v2), some (.inl 0)] _ _ _
      refine mw_aload_n (pc' := 81) dX12_laysBehind_80 rfl rfl ?_
      refine mw_getR (pc' := 84) dX12_laysBehind_81 rfl flX12_108 rfl (skT_47 hS) ?_
      rw [skR_47_50 hS]
      refine mw_sipush (pc' := 87) (v := 1024) dX12_laysBehind_84 rfl (by decide) ?_
      refine mw_iload_n (pc' := 88) dX12_laysBehind_87 rfl rfl ?_
      refine mw_imul (pc' := 89) dX12_laysBehind_88 rfl ?_
      refine mw_iload_n (pc' := 90) dX12_laysBehind_89 rfl rfl ?_
      refine mw_iadd (pc' := 91) dX12_laysBehind_90 rfl ?_
      refine mw_iload_n (pc' := 92) dX12_laysBehind_91 rfl rfl ?_
      refine mw_aload_n (pc' := 93) dX12_laysBehind_92 rfl rfl ?_
      refine mw_getR (pc' := 96) dX12_laysBehind_93 rfl flX12_102 rfl (skT_47 hS) ?_
      rw [skR_47_48 hS]
      refine mw_sipush (pc' := 99) (v := 1024) dX12_laysBehind_96 rfl (by decide) ?_
      refine mw_iload_n (pc' := 100) dX12_laysBehind_99 rfl rfl ?_
      refine mw_imul (pc' := 101) dX12_laysBehind_100 rfl ?_
      refine mw_iload_n (pc' := 102) dX12_laysBehind_101 rfl rfl ?_
      refine mw_iadd (pc' := 103) dX12_laysBehind_102 rfl ?_
      obtain ⟨o9, K⟩ := K
      refine mw_ialdL (pc' := 104) dX12_laysBehind_103 rfl (skT_78 hS) (skL_78 hS) o9 ?_
      refine mw_callS (pc' := 107) (b' := (0, 0)) (b1 := b) (av := [.inl 0, .inl (mI h 78 ((1024 * v1) + v2).toNatClampNeg)]) (rest := [.inl ((1024 * v1) + v2), .inr (some 80)]) dX12_laysBehind_104 rfl lkX12_373 rfl rfl (Nat.le_of_ble_eq_true rfl) ⟨Nat.le_of_eq (Nat.zero_add _), Nat.le_of_eq (Nat.zero_add _)⟩ ?_
      refine pX12_sum ?_
      obtain ⟨o10, K⟩ := K
      refine mw_iastK (pc' := 108) dX12_laysBehind_107 rfl (skT_80 hS) (skL_80 hS) o10 hS (fun h11 eh11 hS => ?_)
      replace K := K h11 eh11
      refine mw_iinc (pc' := 111) (v := v2 + 1) dX12_laysBehind_108 rfl (by decide) rfl rfl ?_
      show mW _ _ _ _ _ [some (.inr (some 47)), some (.inl v1), some (.inl (v2 + 1)), some (.inl 0)] _ _ _
      refine mw_goto (tgt := 13) dX12_laysBehind_111 (by decide) ?_
      refine mw_weak (ls' := [some (.inr (some 47)), some (.inl v1), some (.inl (v2 + 1)), none]) ?_ ?_
      · intro i v hv; match i, hv with
        | 0, hv => exact hv
        | 1, hv => exact hv
        | 2, hv => exact hv
        | 3, hv => cases hv
        | n + 4, hv => cases hv
      exact K

set_option maxRecDepth 100000 in
set_option maxHeartbeats 4000000 in
theorem qX12_leastAt {G : mG} {d : Nat} {b : Nat × Nat} {h : mH} {Q : Option mV → mH → Prop} (v1 : Int32) (hS : mSk h)
    (K : mW G kX12_leastAt (d + 1) b 6 [some (.inr (some 47)), some (.inl v1), some (.inl 1000000000), some (.inl 0)] [] h Q) : mC G kX12_leastAt (d + 1) b [.inr (some 47), .inl v1] h Q := by
  refine mC_in rfl (Nat.le_of_ble_eq_true rfl) ?_
  show mW _ _ _ _ _ [some (.inr (some 47)), some (.inl v1), none, none] _ _ _
  refine mw_ldcw (pc' := 3) dX12_leastAt_0 rfl cnX12_359 ?_
  refine mw_istore_n (pc' := 4) dX12_leastAt_3 rfl (by decide) ?_
  show mW _ _ _ _ _ [some (.inr (some 47)), some (.inl v1), some (.inl 1000000000), none] _ _ _
  refine mw_iconst (pc' := 5) (v := 0) dX12_leastAt_4 rfl (by decide) ?_
  refine mw_istore_n (pc' := 6) dX12_leastAt_5 rfl (by decide) ?_
  show mW _ _ _ _ _ [some (.inr (some 47)), some (.inl v1), some (.inl 1000000000), some (.inl 0)] _ _ _
  exact K

set_option maxRecDepth 100000 in
set_option maxHeartbeats 4000000 in
theorem qX12_leastAt_6 {G : mG} {d : Nat} {b : Nat × Nat} {h : mH} {Q : Option mV → mH → Prop} (v1 : Int32) (v2 : Int32) (v3 : Int32) (hS : mSk h)
    (K : ((1024 ≤ v3 → Q (some (.inl v2)) h) ∧ (¬ (1024 ≤ v3) → vp_in ((1024 * v1) + v3) 12288 ∧ mW G kX12_leastAt (d + 1) b 6 [some (.inr (some 47)), some (.inl v1), some (.inl (f_X12_least v2 (mI h 79 ((1024 * v1) + v3).toNatClampNeg))), some (.inl (v3 + 1))] [] h Q))) : mW G kX12_leastAt (d + 1) b 6 [some (.inr (some 47)), some (.inl v1), some (.inl v2), some (.inl v3)] [] h Q := by
  refine mw_iload_n (pc' := 7) dX12_leastAt_6 rfl rfl ?_
  refine mw_sipush (pc' := 10) (v := 1024) dX12_leastAt_7 rfl (by decide) ?_
  refine mw_icmp_ge (pc' := 13) (tgt := 36) dX12_leastAt_10 rfl (by decide) (fun c2 => ?_) (fun c2 => ?_)
  · replace K := K.1 c2
    refine mw_iload_n (pc' := 37) dX12_leastAt_36 rfl rfl ?_
    exact mw_iret dX12_leastAt_37 rfl rfl K
  · replace K := K.2 c2
    refine mw_iload_n (pc' := 14) dX12_leastAt_13 rfl rfl ?_
    refine mw_aload_n (pc' := 15) dX12_leastAt_14 rfl rfl ?_
    refine mw_getR (pc' := 18) dX12_leastAt_15 rfl flX12_105 rfl (skT_47 hS) ?_
    rw [skR_47_49 hS]
    refine mw_sipush (pc' := 21) (v := 1024) dX12_leastAt_18 rfl (by decide) ?_
    refine mw_iload_n (pc' := 22) dX12_leastAt_21 rfl rfl ?_
    refine mw_imul (pc' := 23) dX12_leastAt_22 rfl ?_
    refine mw_iload_n (pc' := 24) dX12_leastAt_23 rfl rfl ?_
    refine mw_iadd (pc' := 25) dX12_leastAt_24 rfl ?_
    obtain ⟨o1, K⟩ := K
    refine mw_ialdL (pc' := 26) dX12_leastAt_25 rfl (skT_79 hS) (skL_79 hS) o1 ?_
    refine mw_callS (pc' := 29) (b' := (0, 0)) (b1 := b) (av := [.inl v2, .inl (mI h 79 ((1024 * v1) + v3).toNatClampNeg)]) (rest := []) dX12_leastAt_26 rfl lkX12_363 rfl rfl (Nat.le_of_ble_eq_true rfl) ⟨Nat.le_of_eq (Nat.zero_add _), Nat.le_of_eq (Nat.zero_add _)⟩ ?_
    refine pX12_least ?_
    refine mw_istore_n (pc' := 30) dX12_leastAt_29 rfl (by decide) ?_
    show mW _ _ _ _ _ [some (.inr (some 47)), some (.inl v1), some (.inl (f_X12_least v2 (mI h 79 ((1024 * v1) + v3).toNatClampNeg))), some (.inl v3)] _ _ _
    refine mw_iinc (pc' := 33) (v := v3 + 1) dX12_leastAt_30 rfl (by decide) rfl rfl ?_
    show mW _ _ _ _ _ [some (.inr (some 47)), some (.inl v1), some (.inl (f_X12_least v2 (mI h 79 ((1024 * v1) + v3).toNatClampNeg))), some (.inl (v3 + 1))] _ _ _
    refine mw_goto (tgt := 6) dX12_leastAt_33 (by decide) ?_
    exact K

set_option maxRecDepth 100000 in
set_option maxHeartbeats 4000000 in
theorem qX12_isFitting {G : mG} {d : Nat} {b : Nat × Nat} {h : mH} {Q : Option mV → mH → Prop} (v1 : Int32) (hS : mSk h)
    (K : ((¬ (mI h 47 33) = 0 → mC G kX12_laysOwn (d + 5) (0, 0) [.inr (some 47), .inl v1] h (fun r h1 => r = none ∧ mSk h1 ∧ mC G kX12_laysForth (d + 5) (0, 0) [.inr (some 47)] h1 (fun r h2 => r = none ∧ mSk h2 ∧ mC G kX12_leastAt (d + 5) (0, 0) [.inr (some 47), .inl ((mI h2 47 33) - 1)] h2 (fun r h3 => ∃ x4, r = some (.inl x4) ∧ mSk h3 ∧ ∀ w5 : Int32, w5 = (if (mI h3 47 34) < x4 then 0 else 1) → Q (some (.inl w5)) h3)))) ∧ ((mI h 47 33) = 0 → Q (some (.inl 1)) h))) : mC G kX12_isFitting (d + 6) b [.inr (some 47), .inl v1] h Q := by
  refine mC_in rfl (Nat.le_of_ble_eq_true rfl) ?_
  show mW _ _ _ _ _ [some (.inr (some 47)), some (.inl v1)] _ _ _
  refine mw_aload_n (pc' := 1) dX12_isFitting_0 rfl rfl ?_
  refine mw_getI (pc' := 4) dX12_isFitting_1 rfl flX12_340 rfl (skT_47 hS) ?_
  refine mw_if_ne (pc' := 7) (tgt := 9) dX12_isFitting_4 rfl (by decide) (fun c8 => ?_) (fun c8 => ?_)
  · replace K := K.1 c8
    refine mw_aload_n (pc' := 10) dX12_isFitting_9 rfl rfl ?_
    refine mw_iload_n (pc' := 11) dX12_isFitting_10 rfl rfl ?_
    refine mw_callV (pc' := 14) (b' := (0, 0)) (b1 := b) (av := [.inl v1]) (rest := []) dX12_isFitting_11 rfl lkX12_376 rfl rfl (Nat.le_of_ble_eq_true rfl) ⟨Nat.le_of_eq (Nat.zero_add _), Nat.le_of_eq (Nat.zero_add _)⟩ (skT_47 hS) ?_
    refine mC_mono (fun r h1 hr => ?_) K
    obtain ⟨rfl, hS, K⟩ := hr
    show mW _ _ _ _ _ _ [] _ _
    refine mw_aload_n (pc' := 15) dX12_isFitting_14 rfl rfl ?_
    refine mw_callV (pc' := 18) (b' := (0, 0)) (b1 := b) (av := []) (rest := []) dX12_isFitting_15 rfl lkX12_379 rfl rfl (Nat.le_of_ble_eq_true rfl) ⟨Nat.le_of_eq (Nat.zero_add _), Nat.le_of_eq (Nat.zero_add _)⟩ (skT_47 hS) ?_
    refine mC_mono (fun r h2 hr => ?_) K
    obtain ⟨rfl, hS, K⟩ := hr
    show mW _ _ _ _ _ _ [] _ _
    refine mw_aload_n (pc' := 19) dX12_isFitting_18 rfl rfl ?_
    refine mw_aload_n (pc' := 20) dX12_isFitting_19 rfl rfl ?_
    refine mw_getI (pc' := 23) dX12_isFitting_20 rfl flX12_340 rfl (skT_47 hS) ?_
    refine mw_iconst (pc' := 24) (v := 1) dX12_isFitting_23 rfl (by decide) ?_
    refine mw_isub (pc' := 25) dX12_isFitting_24 rfl ?_
    refine mw_callV (pc' := 28) (b' := (0, 0)) (b1 := b) (av := [.inl ((mI h2 47 33) - 1)]) (rest := []) dX12_isFitting_25 rfl lkX12_382 rfl rfl (Nat.le_of_ble_eq_true rfl) ⟨Nat.le_of_eq (Nat.zero_add _), Nat.le_of_eq (Nat.zero_add _)⟩ (skT_47 hS) ?_
    refine mC_mono (fun r h3 hr => ?_) K
    obtain ⟨x4, rfl, hS, K⟩ := hr
    show mW _ _ _ _ _ _ [.inl x4] _ _
    refine mw_aload_n (pc' := 29) dX12_isFitting_28 rfl rfl ?_
    refine mw_getI (pc' := 32) dX12_isFitting_29 rfl flX12_346 rfl (skT_47 hS) ?_
    have J6 : ∀ w5 : Int32, w5 = (if (mI h3 47 34) < x4 then 0 else 1) → mW G kX12_isFitting (d + 6) b 40 [some (.inr (some 47)), some (.inl v1)] ([.inl w5]) h3 Q := by
      intro w5 ew5
      replace K := K w5 ew5
      exact mw_iret dX12_isFitting_40 rfl (m_boolN (by rw [ew5]; exact (m_boolI m_bool0 m_bool1))) K
    refine mw_icmp_gt (pc' := 35) (tgt := 39) dX12_isFitting_32 rfl (by decide) (fun c7 => ?_) (fun c7 => ?_)
    · refine mw_iconst (pc' := 40) (v := 0) dX12_isFitting_39 rfl (by decide) ?_
      exact J6 _ (by rw [if_pos c7])
    · refine mw_iconst (pc' := 36) (v := 1) dX12_isFitting_35 rfl (by decide) ?_
      refine mw_goto (tgt := 40) dX12_isFitting_36 (by decide) ?_
      exact J6 _ (by rw [if_neg c7])
  · replace K := K.2 c8
    refine mw_iconst (pc' := 8) (v := 1) dX12_isFitting_7 rfl (by decide) ?_
    exact mw_iret dX12_isFitting_8 rfl (by decide) K

set_option maxRecDepth 100000 in
set_option maxHeartbeats 4000000 in
theorem qX12_fits {G : mG} {d : Nat} {b : Nat × Nat} {h : mH} {Q : Option mV → mH → Prop} (v1 : Int32) (hS : mSk h)
    (K : mC G kX12_isCoast (d + 6) (0, 0) [.inr (some 47), .inl v1] h (fun r h1 => ∃ x2, r = some (.inl x2) ∧ mSk h1 ∧ ((¬ x2 = 0 → mC G kX12_isFitting (d + 6) (0, 0) [.inr (some 47), .inl v1] h1 (fun r h3 => ∃ x4, r = some (.inl x4) ∧ mSk h3 ∧ ∀ w5 : Int32, w5 = (if x4 = 0 then 0 else 1) → Q (some (.inl w5)) h3)) ∧ (x2 = 0 → Q (some (.inl (-1))) h1)))) : mC G kX12_fits (d + 7) b [.inr (some 47), .inl v1] h Q := by
  refine mC_in rfl (Nat.le_of_ble_eq_true rfl) ?_
  show mW _ _ _ _ _ [some (.inr (some 47)), some (.inl v1)] _ _ _
  refine mw_aload_n (pc' := 1) dX12_fits_0 rfl rfl ?_
  refine mw_iload_n (pc' := 2) dX12_fits_1 rfl rfl ?_
  refine mw_callV (pc' := 5) (b' := (0, 0)) (b1 := b) (av := [.inl v1]) (rest := []) dX12_fits_2 rfl lkX12_187 rfl rfl (Nat.le_of_ble_eq_true rfl) ⟨Nat.le_of_eq (Nat.zero_add _), Nat.le_of_eq (Nat.zero_add _)⟩ (skT_47 hS) ?_
  refine mC_mono (fun r h1 hr => ?_) K
  obtain ⟨x2, rfl, hS, K⟩ := hr
  show mW _ _ _ _ _ _ [.inl x2] _ _
  refine mw_if_ne (pc' := 8) (tgt := 12) dX12_fits_5 rfl (by decide) (fun c8 => ?_) (fun c8 => ?_)
  · replace K := K.1 c8
    refine mw_aload_n (pc' := 13) dX12_fits_12 rfl rfl ?_
    refine mw_iload_n (pc' := 14) dX12_fits_13 rfl rfl ?_
    refine mw_callV (pc' := 17) (b' := (0, 0)) (b1 := b) (av := [.inl v1]) (rest := []) dX12_fits_14 rfl lkX12_385 rfl rfl (Nat.le_of_ble_eq_true rfl) ⟨Nat.le_of_eq (Nat.zero_add _), Nat.le_of_eq (Nat.zero_add _)⟩ (skT_47 hS) ?_
    refine mC_mono (fun r h3 hr => ?_) K
    obtain ⟨x4, rfl, hS, K⟩ := hr
    show mW _ _ _ _ _ _ [.inl x4] _ _
    have J6 : ∀ w5 : Int32, w5 = (if x4 = 0 then 0 else 1) → mW G kX12_fits (d + 7) b 25 [some (.inr (some 47)), some (.inl v1)] ([.inl w5]) h3 Q := by
      intro w5 ew5
      replace K := K w5 ew5
      exact mw_iret dX12_fits_25 rfl rfl K
    refine mw_if_eq (pc' := 20) (tgt := 24) dX12_fits_17 rfl (by decide) (fun c7 => ?_) (fun c7 => ?_)
    · refine mw_iconst (pc' := 25) (v := 0) dX12_fits_24 rfl (by decide) ?_
      exact J6 _ (by rw [if_pos c7])
    · refine mw_iconst (pc' := 21) (v := 1) dX12_fits_20 rfl (by decide) ?_
      refine mw_goto (tgt := 25) dX12_fits_21 (by decide) ?_
      exact J6 _ (by rw [if_neg c7])
  · replace K := K.2 c8
    refine mw_iconst (pc' := 9) (v := (-1)) dX12_fits_8 rfl (by decide) ?_
    refine mw_goto (tgt := 25) dX12_fits_9 (by decide) ?_
    exact mw_iret dX12_fits_25 rfl rfl K

set_option maxRecDepth 100000 in
set_option maxHeartbeats 4000000 in
theorem qX12_firstBad {G : mG} {d : Nat} {b : Nat × Nat} {h : mH} {Q : Option mV → mH → Prop} (v1 : Int32) (hS : mSk h)
    (K : mC G kX12_isCoast (d + 6) (0, 0) [.inr (some 47), .inl v1] h (fun r h1 => ∃ x2, r = some (.inl x2) ∧ mSk h1 ∧ ((¬ x2 = 0 → mC G kX12_isFitting (d + 6) (0, 0) [.inr (some 47), .inl v1] h1 (fun r h3 => ∃ x4, r = some (.inl x4) ∧ mSk h3 ∧ ((x4 = 0 → mW G kX12_firstBad (d + 7) b 23 [some (.inr (some 47)), none, some (.inl 0)] [] h3 Q) ∧ (¬ x4 = 0 → Q (some (.inl (-2))) h3)))) ∧ (x2 = 0 → Q (some (.inl (-1))) h1)))) : mC G kX12_firstBad (d + 7) b [.inr (some 47), .inl v1] h Q := by
  refine mC_in rfl (Nat.le_of_ble_eq_true rfl) ?_
  show mW _ _ _ _ _ [some (.inr (some 47)), some (.inl v1), none] _ _ _
  refine mw_aload_n (pc' := 1) dX12_firstBad_0 rfl rfl ?_
  refine mw_iload_n (pc' := 2) dX12_firstBad_1 rfl rfl ?_
  refine mw_callV (pc' := 5) (b' := (0, 0)) (b1 := b) (av := [.inl v1]) (rest := []) dX12_firstBad_2 rfl lkX12_187 rfl rfl (Nat.le_of_ble_eq_true rfl) ⟨Nat.le_of_eq (Nat.zero_add _), Nat.le_of_eq (Nat.zero_add _)⟩ (skT_47 hS) ?_
  refine mC_mono (fun r h1 hr => ?_) K
  obtain ⟨x2, rfl, hS, K⟩ := hr
  show mW _ _ _ _ _ _ [.inl x2] _ _
  refine mw_if_ne (pc' := 8) (tgt := 10) dX12_firstBad_5 rfl (by decide) (fun c6 => ?_) (fun c6 => ?_)
  · replace K := K.1 c6
    refine mw_aload_n (pc' := 11) dX12_firstBad_10 rfl rfl ?_
    refine mw_iload_n (pc' := 12) dX12_firstBad_11 rfl rfl ?_
    refine mw_callV (pc' := 15) (b' := (0, 0)) (b1 := b) (av := [.inl v1]) (rest := []) dX12_firstBad_12 rfl lkX12_385 rfl rfl (Nat.le_of_ble_eq_true rfl) ⟨Nat.le_of_eq (Nat.zero_add _), Nat.le_of_eq (Nat.zero_add _)⟩ (skT_47 hS) ?_
    refine mC_mono (fun r h3 hr => ?_) K
    obtain ⟨x4, rfl, hS, K⟩ := hr
    show mW _ _ _ _ _ _ [.inl x4] _ _
    refine mw_if_eq (pc' := 18) (tgt := 21) dX12_firstBad_15 rfl (by decide) (fun c5 => ?_) (fun c5 => ?_)
    · replace K := K.1 c5
      refine mw_iconst (pc' := 22) (v := 0) dX12_firstBad_21 rfl (by decide) ?_
      refine mw_istore_n (pc' := 23) dX12_firstBad_22 rfl (by decide) ?_
      show mW _ _ _ _ _ [some (.inr (some 47)), some (.inl v1), some (.inl 0)] _ _ _
      refine mw_weak (ls' := [some (.inr (some 47)), none, some (.inl 0)]) ?_ ?_
      · intro i v hv; match i, hv with
        | 0, hv => exact hv
        | 1, hv => cases hv
        | 2, hv => exact hv
        | n + 3, hv => cases hv
      exact K
    · replace K := K.2 c5
      refine mw_bipush (pc' := 20) (v := (-2)) dX12_firstBad_18 rfl (by decide) ?_
      exact mw_iret dX12_firstBad_20 rfl rfl K
  · replace K := K.2 c6
    refine mw_iconst (pc' := 9) (v := (-1)) dX12_firstBad_8 rfl (by decide) ?_
    exact mw_iret dX12_firstBad_9 rfl rfl K

set_option maxRecDepth 100000 in
set_option maxHeartbeats 4000000 in
theorem qX12_firstBad_23 {G : mG} {d : Nat} {b : Nat × Nat} {h : mH} {Q : Option mV → mH → Prop} (v2 : Int32) (hS : mSk h)
    (K : mC G kX12_leastAt (d + 6) (0, 0) [.inr (some 47), .inl v2] h (fun r h1 => ∃ x2, r = some (.inl x2) ∧ mSk h1 ∧ (((mI h1 47 34) < x2 → Q (some (.inl v2)) h1) ∧ (¬ ((mI h1 47 34) < x2) → mW G kX12_firstBad (d + 7) b 23 [some (.inr (some 47)), none, some (.inl (v2 + 1))] [] h1 Q)))) : mW G kX12_firstBad (d + 7) b 23 [some (.inr (some 47)), none, some (.inl v2)] [] h Q := by
  refine mw_aload_n (pc' := 24) dX12_firstBad_23 rfl rfl ?_
  refine mw_iload_n (pc' := 25) dX12_firstBad_24 rfl rfl ?_
  refine mw_callV (pc' := 28) (b' := (0, 0)) (b1 := b) (av := [.inl v2]) (rest := []) dX12_firstBad_25 rfl lkX12_382 rfl rfl (Nat.le_of_ble_eq_true rfl) ⟨Nat.le_of_eq (Nat.zero_add _), Nat.le_of_eq (Nat.zero_add _)⟩ (skT_47 hS) ?_
  refine mC_mono (fun r h1 hr => ?_) K
  obtain ⟨x2, rfl, hS, K⟩ := hr
  show mW _ _ _ _ _ _ [.inl x2] _ _
  refine mw_aload_n (pc' := 29) dX12_firstBad_28 rfl rfl ?_
  refine mw_getI (pc' := 32) dX12_firstBad_29 rfl flX12_346 rfl (skT_47 hS) ?_
  refine mw_icmp_gt (pc' := 35) (tgt := 42) dX12_firstBad_32 rfl (by decide) (fun c3 => ?_) (fun c3 => ?_)
  · replace K := K.1 c3
    refine mw_iload_n (pc' := 43) dX12_firstBad_42 rfl rfl ?_
    exact mw_iret dX12_firstBad_43 rfl rfl K
  · replace K := K.2 c3
    refine mw_iload_n (pc' := 36) dX12_firstBad_35 rfl rfl ?_
    refine mw_iconst (pc' := 37) (v := 1) dX12_firstBad_36 rfl (by decide) ?_
    refine mw_iadd (pc' := 38) dX12_firstBad_37 rfl ?_
    refine mw_istore_n (pc' := 39) dX12_firstBad_38 rfl (by decide) ?_
    show mW _ _ _ _ _ [some (.inr (some 47)), none, some (.inl (v2 + 1))] _ _ _
    refine mw_goto (tgt := 23) dX12_firstBad_39 (by decide) ?_
    exact K

set_option maxRecDepth 100000 in
set_option maxHeartbeats 4000000 in
theorem qX12_laysPossible {G : mG} {d : Nat} {b : Nat × Nat} {h : mH} {Q : Option mV → mH → Prop} (v1 : Int32) (hS : mSk h)
    (K : mC G kX12_laysOwn (d + 5) (0, 0) [.inr (some 47), .inl v1] h (fun r h1 => r = none ∧ mSk h1 ∧ mC G kX12_laysForth (d + 5) (0, 0) [.inr (some 47)] h1 (fun r h2 => r = none ∧ mSk h2 ∧ mC G kX12_laysBehind (d + 5) (0, 0) [.inr (some 47)] h2 (fun r h3 => r = none ∧ mSk h3 ∧ Q none h3)))) : mC G kX12_laysPossible (d + 6) b [.inr (some 47), .inl v1] h Q := by
  refine mC_in rfl (Nat.le_of_ble_eq_true rfl) ?_
  show mW _ _ _ _ _ [some (.inr (some 47)), some (.inl v1)] _ _ _
  refine mw_aload_n (pc' := 1) dX12_laysPossible_0 rfl rfl ?_
  refine mw_iload_n (pc' := 2) dX12_laysPossible_1 rfl rfl ?_
  refine mw_callV (pc' := 5) (b' := (0, 0)) (b1 := b) (av := [.inl v1]) (rest := []) dX12_laysPossible_2 rfl lkX12_376 rfl rfl (Nat.le_of_ble_eq_true rfl) ⟨Nat.le_of_eq (Nat.zero_add _), Nat.le_of_eq (Nat.zero_add _)⟩ (skT_47 hS) ?_
  refine mC_mono (fun r h1 hr => ?_) K
  obtain ⟨rfl, hS, K⟩ := hr
  show mW _ _ _ _ _ _ [] _ _
  refine mw_aload_n (pc' := 6) dX12_laysPossible_5 rfl rfl ?_
  refine mw_callV (pc' := 9) (b' := (0, 0)) (b1 := b) (av := []) (rest := []) dX12_laysPossible_6 rfl lkX12_379 rfl rfl (Nat.le_of_ble_eq_true rfl) ⟨Nat.le_of_eq (Nat.zero_add _), Nat.le_of_eq (Nat.zero_add _)⟩ (skT_47 hS) ?_
  refine mC_mono (fun r h2 hr => ?_) K
  obtain ⟨rfl, hS, K⟩ := hr
  show mW _ _ _ _ _ _ [] _ _
  refine mw_aload_n (pc' := 10) dX12_laysPossible_9 rfl rfl ?_
  refine mw_callV (pc' := 13) (b' := (0, 0)) (b1 := b) (av := []) (rest := []) dX12_laysPossible_10 rfl lkX12_388 rfl rfl (Nat.le_of_ble_eq_true rfl) ⟨Nat.le_of_eq (Nat.zero_add _), Nat.le_of_eq (Nat.zero_add _)⟩ (skT_47 hS) ?_
  refine mC_mono (fun r h3 hr => ?_) K
  obtain ⟨rfl, hS, K⟩ := hr
  show mW _ _ _ _ _ _ [] _ _
  exact mw_ret dX12_laysPossible_13 rfl K

set_option maxRecDepth 100000 in
set_option maxHeartbeats 4000000 in
theorem qX12_isThere {G : mG} {d : Nat} {b : Nat × Nat} {h : mH} {Q : Option mV → mH → Prop} (v1 : Int32) (v2 : Int32) (hS : mSk h)
    (K : vp_in ((1024 * v1) + v2) 12288 ∧ vp_in ((1024 * v1) + v2) 12288 ∧ ((1000000000 ≤ (f_X12_sum (mI h 79 ((1024 * v1) + v2).toNatClampNeg) (mI h 80 ((1024 * v1) + v2).toNatClampNeg)) → Q (some (.inl 0)) h) ∧ (¬ (1000000000 ≤ (f_X12_sum (mI h 79 ((1024 * v1) + v2).toNatClampNeg) (mI h 80 ((1024 * v1) + v2).toNatClampNeg))) → vp_in ((1024 * v1) + v2) 12288 ∧ ∀ w4 : Int32, w4 = (if (mI h 47 34) < ((f_X12_sum (mI h 79 ((1024 * v1) + v2).toNatClampNeg) (mI h 80 ((1024 * v1) + v2).toNatClampNeg)) - (mI h 78 ((1024 * v1) + v2).toNatClampNeg)) then 0 else 1) → Q (some (.inl w4)) h))) : mC G kX12_isThere (d + 1) b [.inr (some 47), .inl v1, .inl v2] h Q := by
  refine mC_in rfl (Nat.le_of_ble_eq_true rfl) ?_
  show mW _ _ _ _ _ [some (.inr (some 47)), some (.inl v1), some (.inl v2), none] _ _ _
  refine mw_aload_n (pc' := 1) dX12_isThere_0 rfl rfl ?_
  refine mw_getR (pc' := 4) dX12_isThere_1 rfl flX12_105 rfl (skT_47 hS) ?_
  rw [skR_47_49 hS]
  refine mw_sipush (pc' := 7) (v := 1024) dX12_isThere_4 rfl (by decide) ?_
  refine mw_iload_n (pc' := 8) dX12_isThere_7 rfl rfl ?_
  refine mw_imul (pc' := 9) dX12_isThere_8 rfl ?_
  refine mw_iload_n (pc' := 10) dX12_isThere_9 rfl rfl ?_
  refine mw_iadd (pc' := 11) dX12_isThere_10 rfl ?_
  obtain ⟨o1, K⟩ := K
  refine mw_ialdL (pc' := 12) dX12_isThere_11 rfl (skT_79 hS) (skL_79 hS) o1 ?_
  refine mw_aload_n (pc' := 13) dX12_isThere_12 rfl rfl ?_
  refine mw_getR (pc' := 16) dX12_isThere_13 rfl flX12_108 rfl (skT_47 hS) ?_
  rw [skR_47_50 hS]
  refine mw_sipush (pc' := 19) (v := 1024) dX12_isThere_16 rfl (by decide) ?_
  refine mw_iload_n (pc' := 20) dX12_isThere_19 rfl rfl ?_
  refine mw_imul (pc' := 21) dX12_isThere_20 rfl ?_
  refine mw_iload_n (pc' := 22) dX12_isThere_21 rfl rfl ?_
  refine mw_iadd (pc' := 23) dX12_isThere_22 rfl ?_
  obtain ⟨o2, K⟩ := K
  refine mw_ialdL (pc' := 24) dX12_isThere_23 rfl (skT_80 hS) (skL_80 hS) o2 ?_
  refine mw_callS (pc' := 27) (b' := (0, 0)) (b1 := b) (av := [.inl (mI h 79 ((1024 * v1) + v2).toNatClampNeg), .inl (mI h 80 ((1024 * v1) + v2).toNatClampNeg)]) (rest := []) dX12_isThere_24 rfl lkX12_373 rfl rfl (Nat.le_of_ble_eq_true rfl) ⟨Nat.le_of_eq (Nat.zero_add _), Nat.le_of_eq (Nat.zero_add _)⟩ ?_
  refine pX12_sum ?_
  refine mw_istore_n (pc' := 28) dX12_isThere_27 rfl (by decide) ?_
  show mW _ _ _ _ _ [some (.inr (some 47)), some (.inl v1), some (.inl v2), some (.inl (f_X12_sum (mI h 79 ((1024 * v1) + v2).toNatClampNeg) (mI h 80 ((1024 * v1) + v2).toNatClampNeg)))] _ _ _
  refine mw_iload_n (pc' := 29) dX12_isThere_28 rfl rfl ?_
  refine mw_ldcw (pc' := 32) dX12_isThere_29 rfl cnX12_359 ?_
  refine mw_icmp_ge (pc' := 35) (tgt := 60) dX12_isThere_32 rfl (by decide) (fun c7 => ?_) (fun c7 => ?_)
  · replace K := K.1 c7
    refine mw_iconst (pc' := 61) (v := 0) dX12_isThere_60 rfl (by decide) ?_
    exact mw_iret dX12_isThere_61 rfl (by decide) K
  · replace K := K.2 c7
    refine mw_iload_n (pc' := 36) dX12_isThere_35 rfl rfl ?_
    refine mw_aload_n (pc' := 37) dX12_isThere_36 rfl rfl ?_
    refine mw_getR (pc' := 40) dX12_isThere_37 rfl flX12_102 rfl (skT_47 hS) ?_
    rw [skR_47_48 hS]
    refine mw_sipush (pc' := 43) (v := 1024) dX12_isThere_40 rfl (by decide) ?_
    refine mw_iload_n (pc' := 44) dX12_isThere_43 rfl rfl ?_
    refine mw_imul (pc' := 45) dX12_isThere_44 rfl ?_
    refine mw_iload_n (pc' := 46) dX12_isThere_45 rfl rfl ?_
    refine mw_iadd (pc' := 47) dX12_isThere_46 rfl ?_
    obtain ⟨o3, K⟩ := K
    refine mw_ialdL (pc' := 48) dX12_isThere_47 rfl (skT_78 hS) (skL_78 hS) o3 ?_
    refine mw_isub (pc' := 49) dX12_isThere_48 rfl ?_
    refine mw_aload_n (pc' := 50) dX12_isThere_49 rfl rfl ?_
    refine mw_getI (pc' := 53) dX12_isThere_50 rfl flX12_346 rfl (skT_47 hS) ?_
    have J5 : ∀ w4 : Int32, w4 = (if (mI h 47 34) < ((f_X12_sum (mI h 79 ((1024 * v1) + v2).toNatClampNeg) (mI h 80 ((1024 * v1) + v2).toNatClampNeg)) - (mI h 78 ((1024 * v1) + v2).toNatClampNeg)) then 0 else 1) → mW G kX12_isThere (d + 1) b 61 [some (.inr (some 47)), some (.inl v1), some (.inl v2), some (.inl (f_X12_sum (mI h 79 ((1024 * v1) + v2).toNatClampNeg) (mI h 80 ((1024 * v1) + v2).toNatClampNeg)))] ([.inl w4]) h Q := by
      intro w4 ew4
      replace K := K w4 ew4
      exact mw_iret dX12_isThere_61 rfl (m_boolN (by rw [ew4]; exact (m_boolI m_bool0 m_bool1))) K
    refine mw_icmp_gt (pc' := 56) (tgt := 60) dX12_isThere_53 rfl (by decide) (fun c6 => ?_) (fun c6 => ?_)
    · refine mw_iconst (pc' := 61) (v := 0) dX12_isThere_60 rfl (by decide) ?_
      exact J5 _ (by rw [if_pos c6])
    · refine mw_iconst (pc' := 57) (v := 1) dX12_isThere_56 rfl (by decide) ?_
      refine mw_goto (tgt := 61) dX12_isThere_57 (by decide) ?_
      exact J5 _ (by rw [if_neg c6])

set_option maxRecDepth 100000 in
set_option maxHeartbeats 4000000 in
theorem qX12_possibleIn {G : mG} {d : Nat} {b : Nat × Nat} {h : mH} {Q : Option mV → mH → Prop} (v1 : Int32) (v2 : Int32) (hS : mSk h)
    (K : mC G kX12_laysPossible (d + 6) (0, 0) [.inr (some 47), .inl v1] h (fun r h1 => r = none ∧ mSk h1 ∧ mW G kX12_possibleIn (d + 7) b 10 [some (.inr (some 47)), none, some (.inl v2), some (.inl 0), some (.inl 0)] [] h1 Q)) : mC G kX12_possibleIn (d + 7) b [.inr (some 47), .inl v1, .inl v2] h Q := by
  refine mC_in rfl (Nat.le_of_ble_eq_true rfl) ?_
  show mW _ _ _ _ _ [some (.inr (some 47)), some (.inl v1), some (.inl v2), none, none] _ _ _
  refine mw_aload_n (pc' := 1) dX12_possibleIn_0 rfl rfl ?_
  refine mw_iload_n (pc' := 2) dX12_possibleIn_1 rfl rfl ?_
  refine mw_callV (pc' := 5) (b' := (0, 0)) (b1 := b) (av := [.inl v1]) (rest := []) dX12_possibleIn_2 rfl lkX12_391 rfl rfl (Nat.le_of_ble_eq_true rfl) ⟨Nat.le_of_eq (Nat.zero_add _), Nat.le_of_eq (Nat.zero_add _)⟩ (skT_47 hS) ?_
  refine mC_mono (fun r h1 hr => ?_) K
  obtain ⟨rfl, hS, K⟩ := hr
  show mW _ _ _ _ _ _ [] _ _
  refine mw_iconst (pc' := 6) (v := 0) dX12_possibleIn_5 rfl (by decide) ?_
  refine mw_istore_n (pc' := 7) dX12_possibleIn_6 rfl (by decide) ?_
  show mW _ _ _ _ _ [some (.inr (some 47)), some (.inl v1), some (.inl v2), some (.inl 0), none] _ _ _
  refine mw_iconst (pc' := 8) (v := 0) dX12_possibleIn_7 rfl (by decide) ?_
  refine mw_istore (pc' := 10) dX12_possibleIn_8 rfl (by decide) ?_
  show mW _ _ _ _ _ [some (.inr (some 47)), some (.inl v1), some (.inl v2), some (.inl 0), some (.inl 0)] _ _ _
  refine mw_weak (ls' := [some (.inr (some 47)), none, some (.inl v2), some (.inl 0), some (.inl 0)]) ?_ ?_
  · intro i v hv; match i, hv with
    | 0, hv => exact hv
    | 1, hv => cases hv
    | 2, hv => exact hv
    | 3, hv => exact hv
    | 4, hv => exact hv
    | n + 5, hv => cases hv
  exact K

set_option maxRecDepth 100000 in
set_option maxHeartbeats 4000000 in
theorem qX12_possibleIn_10 {G : mG} {d : Nat} {b : Nat × Nat} {h : mH} {Q : Option mV → mH → Prop} (v2 : Int32) (v3 : Int32) (v4 : Int32) (hS : mSk h)
    (K : ((1024 ≤ v4 → Q (some (.inl v3)) h) ∧ (¬ (1024 ≤ v4) → mC G kX12_isThere (d + 6) (0, 0) [.inr (some 47), .inl v2, .inl v4] h (fun r h1 => ∃ x2, r = some (.inl x2) ∧ mSk h1 ∧ ∀ w3 : Int32, w3 = (if x2 = 0 then 0 else 1) → mW G kX12_possibleIn (d + 7) b 10 [some (.inr (some 47)), none, some (.inl v2), some (.inl (v3 + w3)), some (.inl (v4 + 1))] [] h1 Q)))) : mW G kX12_possibleIn (d + 7) b 10 [some (.inr (some 47)), none, some (.inl v2), some (.inl v3), some (.inl v4)] [] h Q := by
  refine mw_iload (pc' := 12) dX12_possibleIn_10 rfl rfl ?_
  refine mw_sipush (pc' := 15) (v := 1024) dX12_possibleIn_12 rfl (by decide) ?_
  refine mw_icmp_ge (pc' := 18) (tgt := 42) dX12_possibleIn_15 rfl (by decide) (fun c6 => ?_) (fun c6 => ?_)
  · replace K := K.1 c6
    refine mw_iload_n (pc' := 43) dX12_possibleIn_42 rfl rfl ?_
    exact mw_iret dX12_possibleIn_43 rfl rfl K
  · replace K := K.2 c6
    refine mw_iload_n (pc' := 19) dX12_possibleIn_18 rfl rfl ?_
    refine mw_aload_n (pc' := 20) dX12_possibleIn_19 rfl rfl ?_
    refine mw_iload_n (pc' := 21) dX12_possibleIn_20 rfl rfl ?_
    refine mw_iload (pc' := 23) dX12_possibleIn_21 rfl rfl ?_
    refine mw_callV (pc' := 26) (b' := (0, 0)) (b1 := b) (av := [.inl v2, .inl v4]) (rest := [.inl v3]) dX12_possibleIn_23 rfl lkX12_394 rfl rfl (Nat.le_of_ble_eq_true rfl) ⟨Nat.le_of_eq (Nat.zero_add _), Nat.le_of_eq (Nat.zero_add _)⟩ (skT_47 hS) ?_
    refine mC_mono (fun r h1 hr => ?_) K
    obtain ⟨x2, rfl, hS, K⟩ := hr
    show mW _ _ _ _ _ _ [.inl x2, .inl v3] _ _
    have J4 : ∀ w3 : Int32, w3 = (if x2 = 0 then 0 else 1) → mW G kX12_possibleIn (d + 7) b 34 [some (.inr (some 47)), none, some (.inl v2), some (.inl v3), some (.inl v4)] ([.inl w3, .inl v3]) h1 Q := by
      intro w3 ew3
      replace K := K w3 ew3
      refine mw_iadd (pc' := 35) dX12_possibleIn_34 rfl ?_
      refine mw_istore_n (pc' := 36) dX12_possibleIn_35 rfl (by decide) ?_
      show mW _ _ _ _ _ [some (.inr (some 47)), none, some (.inl v2), some (.inl (v3 + w3)), some (.inl v4)] _ _ _
      refine mw_iinc (pc' := 39) (v := v4 + 1) dX12_possibleIn_36 rfl (by decide) rfl rfl ?_
      show mW _ _ _ _ _ [some (.inr (some 47)), none, some (.inl v2), some (.inl (v3 + w3)), some (.inl (v4 + 1))] _ _ _
      refine mw_goto (tgt := 10) dX12_possibleIn_39 (by decide) ?_
      exact K
    refine mw_if_eq (pc' := 29) (tgt := 33) dX12_possibleIn_26 rfl (by decide) (fun c5 => ?_) (fun c5 => ?_)
    · refine mw_iconst (pc' := 34) (v := 0) dX12_possibleIn_33 rfl (by decide) ?_
      exact J4 _ (by rw [if_pos c5])
    · refine mw_iconst (pc' := 30) (v := 1) dX12_possibleIn_29 rfl (by decide) ?_
      refine mw_goto (tgt := 34) dX12_possibleIn_30 (by decide) ?_
      exact J4 _ (by rw [if_neg c5])

set_option maxRecDepth 100000 in
set_option maxHeartbeats 4000000 in
theorem qX12_isLine {G : mG} {d : Nat} {b : Nat × Nat} {h : mH} {Q : Option mV → mH → Prop} (v1 : Int32) (hS : mSk h)
    (K : ((v1 < 0 → Q (some (.inl 0)) h) ∧ (¬ (v1 < 0) → ∀ w1 : Int32, w1 = (if (mI h 47 33) ≤ v1 then 0 else 1) → Q (some (.inl w1)) h))) : mC G kX12_isLine d b [.inr (some 47), .inl v1] h Q := by
  refine mC_in rfl (Nat.le_of_ble_eq_true rfl) ?_
  show mW _ _ _ _ _ [some (.inr (some 47)), some (.inl v1)] _ _ _
  refine mw_iload_n (pc' := 1) dX12_isLine_0 rfl rfl ?_
  refine mw_if_lt (pc' := 4) (tgt := 16) dX12_isLine_1 rfl (by decide) (fun c4 => ?_) (fun c4 => ?_)
  · replace K := K.1 c4
    refine mw_iconst (pc' := 17) (v := 0) dX12_isLine_16 rfl (by decide) ?_
    exact mw_iret dX12_isLine_17 rfl (by decide) K
  · replace K := K.2 c4
    refine mw_iload_n (pc' := 5) dX12_isLine_4 rfl rfl ?_
    refine mw_aload_n (pc' := 6) dX12_isLine_5 rfl rfl ?_
    refine mw_getI (pc' := 9) dX12_isLine_6 rfl flX12_340 rfl (skT_47 hS) ?_
    have J2 : ∀ w1 : Int32, w1 = (if (mI h 47 33) ≤ v1 then 0 else 1) → mW G kX12_isLine d b 17 [some (.inr (some 47)), some (.inl v1)] ([.inl w1]) h Q := by
      intro w1 ew1
      replace K := K w1 ew1
      exact mw_iret dX12_isLine_17 rfl (m_boolN (by rw [ew1]; exact (m_boolI m_bool0 m_bool1))) K
    refine mw_icmp_ge (pc' := 12) (tgt := 16) dX12_isLine_9 rfl (by decide) (fun c3 => ?_) (fun c3 => ?_)
    · refine mw_iconst (pc' := 17) (v := 0) dX12_isLine_16 rfl (by decide) ?_
      exact J2 _ (by rw [if_pos c3])
    · refine mw_iconst (pc' := 13) (v := 1) dX12_isLine_12 rfl (by decide) ?_
      refine mw_goto (tgt := 17) dX12_isLine_13 (by decide) ?_
      exact J2 _ (by rw [if_neg c3])
