set_option maxRecDepth 100000 in
set_option maxHeartbeats 4000000 in
theorem qX12_isCoast {G : mG} {d : Nat} {b : Nat × Nat} {h : mH} {Q : Option mV → mH → Prop} (v1 : Int32) (hS : mSk h)
    (K : ((v1 < 0 → Q (some (.inl 0)) h) ∧ (¬ (v1 < 0) → ∀ w1 : Int32, w1 = (if (mI h 47 0) ≤ v1 then 0 else 1) → Q (some (.inl w1)) h))) : mC G kX12_isCoast d b [.inr (some 47), .inl v1] h Q := by
  refine mC_in rfl (Nat.le_of_ble_eq_true rfl) ?_
  show mW _ _ _ _ _ [some (.inr (some 47)), some (.inl v1)] _ _ _
  refine mw_iload_n (pc' := 1) dX12_isCoast_0 rfl rfl ?_
  refine mw_if_lt (pc' := 4) (tgt := 16) dX12_isCoast_1 rfl (by decide) (fun c4 => ?_) (fun c4 => ?_)
  · replace K := K.1 c4
    refine mw_iconst (pc' := 17) (v := 0) dX12_isCoast_16 rfl (by decide) ?_
    exact mw_iret dX12_isCoast_17 rfl (by decide) K
  · replace K := K.2 c4
    refine mw_iload_n (pc' := 5) dX12_isCoast_4 rfl rfl ?_
    refine mw_aload_n (pc' := 6) dX12_isCoast_5 rfl rfl ?_
    refine mw_getI (pc' := 9) dX12_isCoast_6 rfl flX12_154 rfl (skT_47 hS) ?_
    have J2 : ∀ w1 : Int32, w1 = (if (mI h 47 0) ≤ v1 then 0 else 1) → mW G kX12_isCoast d b 17 [some (.inr (some 47)), some (.inl v1)] ([.inl w1]) h Q := by
      intro w1 ew1
      replace K := K w1 ew1
      exact mw_iret dX12_isCoast_17 rfl (m_boolN (by rw [ew1]; exact (m_boolI m_bool0 m_bool1))) K
    refine mw_icmp_ge (pc' := 12) (tgt := 16) dX12_isCoast_9 rfl (by decide) (fun c3 => ?_) (fun c3 => ?_)
    · refine mw_iconst (pc' := 17) (v := 0) dX12_isCoast_16 rfl (by decide) ?_
      exact J2 _ (by rw [if_pos c3])
    · refine mw_iconst (pc' := 13) (v := 1) dX12_isCoast_12 rfl (by decide) ?_
      refine mw_goto (tgt := 17) dX12_isCoast_13 (by decide) ?_
      exact J2 _ (by rw [if_neg c3])

set_option maxRecDepth 100000 in
set_option maxHeartbeats 4000000 in
theorem qX12_next0 {G : mG} {d : Nat} {b : Nat × Nat} {h : mH} {Q : Option mV → mH → Prop} (v1 : Int32) (v2 : Int32) (hS : mSk h)
    (K : vp_in v1 8 ∧ ∀ w2 : Int32, w2 = (if ¬ (v2 + 1) = (mI h 48 v1.toNatClampNeg) then (v2 + 1) else 0) → Q (some (.inl ((16 * v1) + w2))) h) : mC G kX12_next0 d b [.inr (some 47), .inl v1, .inl v2] h Q := by
  refine mC_in rfl (Nat.le_of_ble_eq_true rfl) ?_
  show mW _ _ _ _ _ [some (.inr (some 47)), some (.inl v1), some (.inl v2)] _ _ _
  refine mw_bipush (pc' := 2) (v := 16) dX12_next0_0 rfl (by decide) ?_
  refine mw_iload_n (pc' := 3) dX12_next0_2 rfl rfl ?_
  refine mw_imul (pc' := 4) dX12_next0_3 rfl ?_
  refine mw_iload_n (pc' := 5) dX12_next0_4 rfl rfl ?_
  refine mw_iconst (pc' := 6) (v := 1) dX12_next0_5 rfl (by decide) ?_
  refine mw_iadd (pc' := 7) dX12_next0_6 rfl ?_
  refine mw_aload_n (pc' := 8) dX12_next0_7 rfl rfl ?_
  refine mw_getR (pc' := 11) dX12_next0_8 rfl flX12_7 rfl (skT_47 hS) ?_
  rw [skR_47_1 hS]
  refine mw_iload_n (pc' := 12) dX12_next0_11 rfl rfl ?_
  obtain ⟨o1, K⟩ := K
  refine mw_ialdL (pc' := 13) dX12_next0_12 rfl (skT_48 hS) (skL_48 hS) o1 ?_
  have J3 : ∀ w2 : Int32, w2 = (if ¬ (v2 + 1) = (mI h 48 v1.toNatClampNeg) then (v2 + 1) else 0) → mW G kX12_next0 d b 23 [some (.inr (some 47)), some (.inl v1), some (.inl v2)] ([.inl w2, .inl (16 * v1)]) h Q := by
    intro w2 ew2
    replace K := K w2 ew2
    refine mw_iadd (pc' := 24) dX12_next0_23 rfl ?_
    exact mw_iret dX12_next0_24 rfl rfl K
  refine mw_icmp_ne (pc' := 16) (tgt := 20) dX12_next0_13 rfl (by decide) (fun c4 => ?_) (fun c4 => ?_)
  · refine mw_iload_n (pc' := 21) dX12_next0_20 rfl rfl ?_
    refine mw_iconst (pc' := 22) (v := 1) dX12_next0_21 rfl (by decide) ?_
    refine mw_iadd (pc' := 23) dX12_next0_22 rfl ?_
    exact J3 _ (by rw [if_pos c4])
  · refine mw_iconst (pc' := 17) (v := 0) dX12_next0_16 rfl (by decide) ?_
    refine mw_goto (tgt := 23) dX12_next0_17 (by decide) ?_
    exact J3 _ (by rw [if_neg (fun z => z c4)])

set_option maxRecDepth 100000 in
set_option maxHeartbeats 4000000 in
theorem qX12_isSide {G : mG} {d : Nat} {b : Nat × Nat} {h : mH} {Q : Option mV → mH → Prop} (v1 : Int32) (v2 : Int32) (hS : mSk h)
    (K : mC G kX12_next0 d (0, 0) [.inr (some 47), .inl v1, .inl v2] h (fun r h1 => ∃ x2, r = some (.inl x2) ∧ mSk h1 ∧ ((¬ (m_rem v2 2) = 0 → vp_in ((16 * v1) + v2) 128 ∧ vp_in x2 128 ∧ ((¬ (mI h1 49 ((16 * v1) + v2).toNatClampNeg) = (mI h1 49 x2.toNatClampNeg) → Q (some (.inl 0)) h1) ∧ ((mI h1 49 ((16 * v1) + v2).toNatClampNeg) = (mI h1 49 x2.toNatClampNeg) → vp_in ((16 * v1) + v2) 128 ∧ vp_in x2 128 ∧ ∀ w7 : Int32, w7 = (if (mI h1 50 ((16 * v1) + v2).toNatClampNeg) = (mI h1 50 x2.toNatClampNeg) then 0 else 1) → Q (some (.inl w7)) h1))) ∧ ((m_rem v2 2) = 0 → vp_in ((16 * v1) + v2) 128 ∧ vp_in x2 128 ∧ ((¬ (mI h1 50 ((16 * v1) + v2).toNatClampNeg) = (mI h1 50 x2.toNatClampNeg) → Q (some (.inl 0)) h1) ∧ ((mI h1 50 ((16 * v1) + v2).toNatClampNeg) = (mI h1 50 x2.toNatClampNeg) → vp_in ((16 * v1) + v2) 128 ∧ vp_in x2 128 ∧ ∀ w15 : Int32, w15 = (if (mI h1 49 ((16 * v1) + v2).toNatClampNeg) = (mI h1 49 x2.toNatClampNeg) then 0 else 1) → Q (some (.inl w15)) h1)))))) : mC G kX12_isSide (d + 1) b [.inr (some 47), .inl v1, .inl v2] h Q := by
  refine mC_in rfl (Nat.le_of_ble_eq_true rfl) ?_
  show mW _ _ _ _ _ [some (.inr (some 47)), some (.inl v1), some (.inl v2), none, none] _ _ _
  refine mw_bipush (pc' := 2) (v := 16) dX12_isSide_0 rfl (by decide) ?_
  refine mw_iload_n (pc' := 3) dX12_isSide_2 rfl rfl ?_
  refine mw_imul (pc' := 4) dX12_isSide_3 rfl ?_
  refine mw_iload_n (pc' := 5) dX12_isSide_4 rfl rfl ?_
  refine mw_iadd (pc' := 6) dX12_isSide_5 rfl ?_
  refine mw_istore_n (pc' := 7) dX12_isSide_6 rfl (by decide) ?_
  show mW _ _ _ _ _ [some (.inr (some 47)), some (.inl v1), some (.inl v2), some (.inl ((16 * v1) + v2)), none] _ _ _
  refine mw_aload_n (pc' := 8) dX12_isSide_7 rfl rfl ?_
  refine mw_iload_n (pc' := 9) dX12_isSide_8 rfl rfl ?_
  refine mw_iload_n (pc' := 10) dX12_isSide_9 rfl rfl ?_
  refine mw_callV (pc' := 13) (b' := (0, 0)) (b1 := b) (av := [.inl v1, .inl v2]) (rest := []) dX12_isSide_10 rfl lkX12_157 rfl rfl (Nat.le_of_ble_eq_true rfl) ⟨Nat.le_of_eq (Nat.zero_add _), Nat.le_of_eq (Nat.zero_add _)⟩ (skT_47 hS) ?_
  refine mC_mono (fun r h1 hr => ?_) K
  obtain ⟨x2, rfl, hS, K⟩ := hr
  show mW _ _ _ _ _ _ [.inl x2] _ _
  refine mw_istore (pc' := 15) dX12_isSide_13 rfl (by decide) ?_
  show mW _ _ _ _ _ [some (.inr (some 47)), some (.inl v1), some (.inl v2), some (.inl ((16 * v1) + v2)), some (.inl x2)] _ _ _
  refine mw_iload_n (pc' := 16) dX12_isSide_15 rfl rfl ?_
  refine mw_iconst (pc' := 17) (v := 2) dX12_isSide_16 rfl (by decide) ?_
  refine mw_iremM (pc' := 18) dX12_isSide_17 rfl (by decide) ?_
  refine mw_if_ne (pc' := 21) (tgt := 61) dX12_isSide_18 rfl (by decide) (fun c19 => ?_) (fun c19 => ?_)
  · replace K := K.1 c19
    refine mw_aload_n (pc' := 62) dX12_isSide_61 rfl rfl ?_
    refine mw_getR (pc' := 65) dX12_isSide_62 rfl flX12_13 rfl (skT_47 hS) ?_
    rw [skR_47_2 hS]
    refine mw_iload_n (pc' := 66) dX12_isSide_65 rfl rfl ?_
    obtain ⟨o3, K⟩ := K
    refine mw_ialdL (pc' := 67) dX12_isSide_66 rfl (skT_49 hS) (skL_49 hS) o3 ?_
    refine mw_aload_n (pc' := 68) dX12_isSide_67 rfl rfl ?_
    refine mw_getR (pc' := 71) dX12_isSide_68 rfl flX12_13 rfl (skT_47 hS) ?_
    rw [skR_47_2 hS]
    refine mw_iload (pc' := 73) dX12_isSide_71 rfl rfl ?_
    obtain ⟨o4, K⟩ := K
    refine mw_ialdL (pc' := 74) dX12_isSide_73 rfl (skT_49 hS) (skL_49 hS) o4 ?_
    refine mw_icmp_ne (pc' := 77) (tgt := 97) dX12_isSide_74 rfl (by decide) (fun c10 => ?_) (fun c10 => ?_)
    · replace K := K.1 c10
      refine mw_iconst (pc' := 98) (v := 0) dX12_isSide_97 rfl (by decide) ?_
      exact mw_iret dX12_isSide_98 rfl (by decide) K
    · replace K := K.2 c10
      refine mw_aload_n (pc' := 78) dX12_isSide_77 rfl rfl ?_
      refine mw_getR (pc' := 81) dX12_isSide_78 rfl flX12_16 rfl (skT_47 hS) ?_
      rw [skR_47_3 hS]
      refine mw_iload_n (pc' := 82) dX12_isSide_81 rfl rfl ?_
      obtain ⟨o5, K⟩ := K
      refine mw_ialdL (pc' := 83) dX12_isSide_82 rfl (skT_50 hS) (skL_50 hS) o5 ?_
      refine mw_aload_n (pc' := 84) dX12_isSide_83 rfl rfl ?_
      refine mw_getR (pc' := 87) dX12_isSide_84 rfl flX12_16 rfl (skT_47 hS) ?_
      rw [skR_47_3 hS]
      refine mw_iload (pc' := 89) dX12_isSide_87 rfl rfl ?_
      obtain ⟨o6, K⟩ := K
      refine mw_ialdL (pc' := 90) dX12_isSide_89 rfl (skT_50 hS) (skL_50 hS) o6 ?_
      have J8 : ∀ w7 : Int32, w7 = (if (mI h1 50 ((16 * v1) + v2).toNatClampNeg) = (mI h1 50 x2.toNatClampNeg) then 0 else 1) → mW G kX12_isSide (d + 1) b 98 [some (.inr (some 47)), some (.inl v1), some (.inl v2), some (.inl ((16 * v1) + v2)), some (.inl x2)] ([.inl w7]) h1 Q := by
        intro w7 ew7
        replace K := K w7 ew7
        exact mw_iret dX12_isSide_98 rfl (m_boolN (by rw [ew7]; exact (m_boolI m_bool0 m_bool1))) K
      refine mw_icmp_eq (pc' := 93) (tgt := 97) dX12_isSide_90 rfl (by decide) (fun c9 => ?_) (fun c9 => ?_)
      · refine mw_iconst (pc' := 98) (v := 0) dX12_isSide_97 rfl (by decide) ?_
        exact J8 _ (by rw [if_pos c9])
      · refine mw_iconst (pc' := 94) (v := 1) dX12_isSide_93 rfl (by decide) ?_
        refine mw_goto (tgt := 98) dX12_isSide_94 (by decide) ?_
        exact J8 _ (by rw [if_neg c9])
  · replace K := K.2 c19
    refine mw_aload_n (pc' := 22) dX12_isSide_21 rfl rfl ?_
    refine mw_getR (pc' := 25) dX12_isSide_22 rfl flX12_16 rfl (skT_47 hS) ?_
    rw [skR_47_3 hS]
    refine mw_iload_n (pc' := 26) dX12_isSide_25 rfl rfl ?_
    obtain ⟨o11, K⟩ := K
    refine mw_ialdL (pc' := 27) dX12_isSide_26 rfl (skT_50 hS) (skL_50 hS) o11 ?_
    refine mw_aload_n (pc' := 28) dX12_isSide_27 rfl rfl ?_
    refine mw_getR (pc' := 31) dX12_isSide_28 rfl flX12_16 rfl (skT_47 hS) ?_
    rw [skR_47_3 hS]
    refine mw_iload (pc' := 33) dX12_isSide_31 rfl rfl ?_
    obtain ⟨o12, K⟩ := K
    refine mw_ialdL (pc' := 34) dX12_isSide_33 rfl (skT_50 hS) (skL_50 hS) o12 ?_
    refine mw_icmp_ne (pc' := 37) (tgt := 57) dX12_isSide_34 rfl (by decide) (fun c18 => ?_) (fun c18 => ?_)
    · replace K := K.1 c18
      refine mw_iconst (pc' := 58) (v := 0) dX12_isSide_57 rfl (by decide) ?_
      refine mw_goto (tgt := 98) dX12_isSide_58 (by decide) ?_
      exact mw_iret dX12_isSide_98 rfl (by decide) K
    · replace K := K.2 c18
      refine mw_aload_n (pc' := 38) dX12_isSide_37 rfl rfl ?_
      refine mw_getR (pc' := 41) dX12_isSide_38 rfl flX12_13 rfl (skT_47 hS) ?_
      rw [skR_47_2 hS]
      refine mw_iload_n (pc' := 42) dX12_isSide_41 rfl rfl ?_
      obtain ⟨o13, K⟩ := K
      refine mw_ialdL (pc' := 43) dX12_isSide_42 rfl (skT_49 hS) (skL_49 hS) o13 ?_
      refine mw_aload_n (pc' := 44) dX12_isSide_43 rfl rfl ?_
      refine mw_getR (pc' := 47) dX12_isSide_44 rfl flX12_13 rfl (skT_47 hS) ?_
      rw [skR_47_2 hS]
      refine mw_iload (pc' := 49) dX12_isSide_47 rfl rfl ?_
      obtain ⟨o14, K⟩ := K
      refine mw_ialdL (pc' := 50) dX12_isSide_49 rfl (skT_49 hS) (skL_49 hS) o14 ?_
      have J16 : ∀ w15 : Int32, w15 = (if (mI h1 49 ((16 * v1) + v2).toNatClampNeg) = (mI h1 49 x2.toNatClampNeg) then 0 else 1) → mW G kX12_isSide (d + 1) b 98 [some (.inr (some 47)), some (.inl v1), some (.inl v2), some (.inl ((16 * v1) + v2)), some (.inl x2)] ([.inl w15]) h1 Q := by
        intro w15 ew15
        replace K := K w15 ew15
        exact mw_iret dX12_isSide_98 rfl (m_boolN (by rw [ew15]; exact (m_boolI m_bool0 m_bool1))) K
      refine mw_icmp_eq (pc' := 53) (tgt := 57) dX12_isSide_50 rfl (by decide) (fun c17 => ?_) (fun c17 => ?_)
      · refine mw_iconst (pc' := 58) (v := 0) dX12_isSide_57 rfl (by decide) ?_
        refine mw_goto (tgt := 98) dX12_isSide_58 (by decide) ?_
        exact J16 _ (by rw [if_pos c17])
      · refine mw_iconst (pc' := 54) (v := 1) dX12_isSide_53 rfl (by decide) ?_
        refine mw_goto (tgt := 98) dX12_isSide_54 (by decide) ?_
        exact J16 _ (by rw [if_neg c17])

set_option maxRecDepth 100000 in
set_option maxHeartbeats 4000000 in
theorem qX12_laysLand {G : mG} {d : Nat} {b : Nat × Nat} {h : mH} {Q : Option mV → mH → Prop} (v1 : Int32) (hS : mSk h)
    (K : mW G kX12_laysLand (d + 1) b 2 [some (.inr (some 47)), some (.inl v1), some (.inl 0), none, none, none, none] [] h Q) : mC G kX12_laysLand (d + 1) b [.inr (some 47), .inl v1] h Q := by
  refine mC_in rfl (Nat.le_of_ble_eq_true rfl) ?_
  show mW _ _ _ _ _ [some (.inr (some 47)), some (.inl v1), none, none, none, none, none] _ _ _
  refine mw_iconst (pc' := 1) (v := 0) dX12_laysLand_0 rfl (by decide) ?_
  refine mw_istore_n (pc' := 2) dX12_laysLand_1 rfl (by decide) ?_
  show mW _ _ _ _ _ [some (.inr (some 47)), some (.inl v1), some (.inl 0), none, none, none, none] _ _ _
  exact K

set_option maxRecDepth 100000 in
set_option maxHeartbeats 4000000 in
theorem qX12_laysLand_2 {G : mG} {d : Nat} {b : Nat × Nat} {h : mH} {Q : Option mV → mH → Prop} (v1 : Int32) (v2 : Int32) (hS : mSk h)
    (K : ((1024 ≤ v2 → Q none h) ∧ (¬ (1024 ≤ v2) → mW G kX12_laysLand (d + 1) b 26 [some (.inr (some 47)), some (.inl v1), some (.inl v2), some (.inl (m_rem v2 32)), some (.inl (v2 / 32)), some (.inl 0), some (.inl 1)] [] h Q))) : mW G kX12_laysLand (d + 1) b 2 [some (.inr (some 47)), some (.inl v1), some (.inl v2), none, none, none, none] [] h Q := by
  refine mw_iload_n (pc' := 3) dX12_laysLand_2 rfl rfl ?_
  refine mw_sipush (pc' := 6) (v := 1024) dX12_laysLand_3 rfl (by decide) ?_
  refine mw_icmp_ge (pc' := 9) (tgt := 126) dX12_laysLand_6 rfl (by decide) (fun c1 => ?_) (fun c1 => ?_)
  · replace K := K.1 c1
    exact mw_ret dX12_laysLand_126 rfl K
  · replace K := K.2 c1
    refine mw_iload_n (pc' := 10) dX12_laysLand_9 rfl rfl ?_
    refine mw_bipush (pc' := 12) (v := 32) dX12_laysLand_10 rfl (by decide) ?_
    refine mw_iremM (pc' := 13) dX12_laysLand_12 rfl (by decide) ?_
    refine mw_istore_n (pc' := 14) dX12_laysLand_13 rfl (by decide) ?_
    show mW _ _ _ _ _ [some (.inr (some 47)), some (.inl v1), some (.inl v2), some (.inl (m_rem v2 32)), none, none, none] _ _ _
    refine mw_iload_n (pc' := 15) dX12_laysLand_14 rfl rfl ?_
    refine mw_bipush (pc' := 17) (v := 32) dX12_laysLand_15 rfl (by decide) ?_
    refine mw_idiv (pc' := 18) dX12_laysLand_17 rfl (by decide) ?_
    refine mw_istore (pc' := 20) dX12_laysLand_18 rfl (by decide) ?_
    show mW _ _ _ _ _ [some (.inr (some 47)), some (.inl v1), some (.inl v2), some (.inl (m_rem v2 32)), some (.inl (v2 / 32)), none, none] _ _ _
    refine mw_iconst (pc' := 21) (v := 0) dX12_laysLand_20 rfl (by decide) ?_
    refine mw_istore (pc' := 23) dX12_laysLand_21 rfl (by decide) ?_
    show mW _ _ _ _ _ [some (.inr (some 47)), some (.inl v1), some (.inl v2), some (.inl (m_rem v2 32)), some (.inl (v2 / 32)), some (.inl 0), none] _ _ _
    refine mw_iconst (pc' := 24) (v := 1) dX12_laysLand_23 rfl (by decide) ?_
    refine mw_istore (pc' := 26) dX12_laysLand_24 rfl (by decide) ?_
    show mW _ _ _ _ _ [some (.inr (some 47)), some (.inl v1), some (.inl v2), some (.inl (m_rem v2 32)), some (.inl (v2 / 32)), some (.inl 0), some (.inl 1)] _ _ _
    exact K

set_option maxRecDepth 100000 in
set_option maxHeartbeats 4000000 in
theorem qX12_laysLand_26 {G : mG} {d : Nat} {b : Nat × Nat} {h : mH} {Q : Option mV → mH → Prop} (v1 : Int32) (v2 : Int32) (v3 : Int32) (v4 : Int32) (v5 : Int32) (v6 : Int32) (hS : mSk h)
    (K : vp_in v1 8 ∧ (((mI h 48 v1.toNatClampNeg) ≤ v6 → vp_in ((1024 * v1) + v2) 8192 ∧ m_bool v5 ∧ ∀ h3, h3 = mSI h 52 ((1024 * v1) + v2).toNatClampNeg v5 → mW G kX12_laysLand (d + 1) b 2 [some (.inr (some 47)), some (.inl v1), some (.inl (v2 + 1)), none, none, none, none] [] h3 Q) ∧ (¬ ((mI h 48 v1.toNatClampNeg) ≤ v6) → vp_in ((16 * v1) + v6) 128 ∧ ((v3 < (mI h 49 ((16 * v1) + v6).toNatClampNeg) → mW G kX12_laysLand (d + 1) b 26 [some (.inr (some 47)), some (.inl v1), some (.inl v2), some (.inl v3), some (.inl v4), some (.inl v5), some (.inl (v6 + 2))] [] h Q) ∧ (¬ (v3 < (mI h 49 ((16 * v1) + v6).toNatClampNeg)) → vp_in ((16 * v1) + v6) 128 ∧ mC G kX12_next0 d (0, 0) [.inr (some 47), .inl v1, .inl v6] h (fun r h7 => ∃ x8, r = some (.inl x8) ∧ mSk h7 ∧ vp_in x8 128 ∧ (((f_X12_isBetween v4 (mI h 50 ((16 * v1) + v6).toNatClampNeg) (mI h7 50 x8.toNatClampNeg)) = 0 → mW G kX12_laysLand (d + 1) b 26 [some (.inr (some 47)), some (.inl v1), some (.inl v2), some (.inl v3), some (.inl v4), some (.inl v5), some (.inl (v6 + 2))] [] h7 Q) ∧ (¬ (f_X12_isBetween v4 (mI h 50 ((16 * v1) + v6).toNatClampNeg) (mI h7 50 x8.toNatClampNeg)) = 0 → ∀ w10 : Int32, w10 = (if ¬ v5 = 0 then 0 else 1) → mW G kX12_laysLand (d + 1) b 26 [some (.inr (some 47)), some (.inl v1), some (.inl v2), some (.inl v3), some (.inl v4), some (.inl w10), some (.inl (v6 + 2))] [] h7 Q)))))))) : mW G kX12_laysLand (d + 1) b 26 [some (.inr (some 47)), some (.inl v1), some (.inl v2), some (.inl v3), some (.inl v4), some (.inl v5), some (.inl v6)] [] h Q := by
  refine mw_iload (pc' := 28) dX12_laysLand_26 rfl rfl ?_
  refine mw_aload_n (pc' := 29) dX12_laysLand_28 rfl rfl ?_
  refine mw_getR (pc' := 32) dX12_laysLand_29 rfl flX12_7 rfl (skT_47 hS) ?_
  rw [skR_47_1 hS]
  refine mw_iload_n (pc' := 33) dX12_laysLand_32 rfl rfl ?_
  obtain ⟨o1, K⟩ := K
  refine mw_ialdL (pc' := 34) dX12_laysLand_33 rfl (skT_48 hS) (skL_48 hS) o1 ?_
  refine mw_icmp_ge (pc' := 37) (tgt := 106) dX12_laysLand_34 rfl (by decide) (fun c15 => ?_) (fun c15 => ?_)
  · replace K := K.1 c15
    refine mw_aload_n (pc' := 107) dX12_laysLand_106 rfl rfl ?_
    refine mw_getR (pc' := 110) dX12_laysLand_107 rfl flX12_22 rfl (skT_47 hS) ?_
    rw [skR_47_5 hS]
    refine mw_sipush (pc' := 113) (v := 1024) dX12_laysLand_110 rfl (by decide) ?_
    refine mw_iload_n (pc' := 114) dX12_laysLand_113 rfl rfl ?_
    refine mw_imul (pc' := 115) dX12_laysLand_114 rfl ?_
    refine mw_iload_n (pc' := 116) dX12_laysLand_115 rfl rfl ?_
    refine mw_iadd (pc' := 117) dX12_laysLand_116 rfl ?_
    refine mw_iload (pc' := 119) dX12_laysLand_117 rfl rfl ?_
    obtain ⟨o2, K⟩ := K
    obtain ⟨o4, K⟩ := K
    refine mw_bastK (pc' := 120) dX12_laysLand_119 rfl (skT_52 hS) (skL_52 hS) o2 (m_boolN o4) hS (fun h3 eh3 hS => ?_)
    replace K := K h3 eh3
    refine mw_iinc (pc' := 123) (v := v2 + 1) dX12_laysLand_120 rfl (by decide) rfl rfl ?_
    show mW _ _ _ _ _ [some (.inr (some 47)), some (.inl v1), some (.inl (v2 + 1)), some (.inl v3), some (.inl v4), some (.inl v5), some (.inl v6)] _ _ _
    refine mw_goto (tgt := 2) dX12_laysLand_123 (by decide) ?_
    refine mw_weak (ls' := [some (.inr (some 47)), some (.inl v1), some (.inl (v2 + 1)), none, none, none, none]) ?_ ?_
    · intro i v hv; match i, hv with
      | 0, hv => exact hv
      | 1, hv => exact hv
      | 2, hv => exact hv
      | 3, hv => cases hv
      | 4, hv => cases hv
      | 5, hv => cases hv
      | 6, hv => cases hv
      | n + 7, hv => cases hv
    exact K
  · replace K := K.2 c15
    refine mw_aload_n (pc' := 38) dX12_laysLand_37 rfl rfl ?_
    refine mw_getR (pc' := 41) dX12_laysLand_38 rfl flX12_13 rfl (skT_47 hS) ?_
    rw [skR_47_2 hS]
    refine mw_bipush (pc' := 43) (v := 16) dX12_laysLand_41 rfl (by decide) ?_
    refine mw_iload_n (pc' := 44) dX12_laysLand_43 rfl rfl ?_
    refine mw_imul (pc' := 45) dX12_laysLand_44 rfl ?_
    refine mw_iload (pc' := 47) dX12_laysLand_45 rfl rfl ?_
    refine mw_iadd (pc' := 48) dX12_laysLand_47 rfl ?_
    obtain ⟨o5, K⟩ := K
    refine mw_ialdL (pc' := 49) dX12_laysLand_48 rfl (skT_49 hS) (skL_49 hS) o5 ?_
    refine mw_iload_n (pc' := 50) dX12_laysLand_49 rfl rfl ?_
    refine mw_icmp_gt (pc' := 53) (tgt := 97) dX12_laysLand_50 rfl (by decide) (fun c14 => ?_) (fun c14 => ?_)
    · replace K := K.1 c14
      refine mw_iload (pc' := 99) dX12_laysLand_97 rfl rfl ?_
      refine mw_iconst (pc' := 100) (v := 2) dX12_laysLand_99 rfl (by decide) ?_
      refine mw_iadd (pc' := 101) dX12_laysLand_100 rfl ?_
      refine mw_istore (pc' := 103) dX12_laysLand_101 rfl (by decide) ?_
      show mW _ _ _ _ _ [some (.inr (some 47)), some (.inl v1), some (.inl v2), some (.inl v3), some (.inl v4), some (.inl v5), some (.inl (v6 + 2))] _ _ _
      refine mw_goto (tgt := 26) dX12_laysLand_103 (by decide) ?_
      exact K
    · replace K := K.2 c14
      refine mw_iload (pc' := 55) dX12_laysLand_53 rfl rfl ?_
      refine mw_aload_n (pc' := 56) dX12_laysLand_55 rfl rfl ?_
      refine mw_getR (pc' := 59) dX12_laysLand_56 rfl flX12_16 rfl (skT_47 hS) ?_
      rw [skR_47_3 hS]
      refine mw_bipush (pc' := 61) (v := 16) dX12_laysLand_59 rfl (by decide) ?_
      refine mw_iload_n (pc' := 62) dX12_laysLand_61 rfl rfl ?_
      refine mw_imul (pc' := 63) dX12_laysLand_62 rfl ?_
      refine mw_iload (pc' := 65) dX12_laysLand_63 rfl rfl ?_
      refine mw_iadd (pc' := 66) dX12_laysLand_65 rfl ?_
      obtain ⟨o6, K⟩ := K
      refine mw_ialdL (pc' := 67) dX12_laysLand_66 rfl (skT_50 hS) (skL_50 hS) o6 ?_
      refine mw_aload_n (pc' := 68) dX12_laysLand_67 rfl rfl ?_
      refine mw_getR (pc' := 71) dX12_laysLand_68 rfl flX12_16 rfl (skT_47 hS) ?_
      rw [skR_47_3 hS]
      refine mw_aload_n (pc' := 72) dX12_laysLand_71 rfl rfl ?_
      refine mw_iload_n (pc' := 73) dX12_laysLand_72 rfl rfl ?_
      refine mw_iload (pc' := 75) dX12_laysLand_73 rfl rfl ?_
      refine mw_callV (pc' := 78) (b' := (0, 0)) (b1 := b) (av := [.inl v1, .inl v6]) (rest := [.inr (some 50), .inl (mI h 50 ((16 * v1) + v6).toNatClampNeg), .inl v4]) dX12_laysLand_75 rfl lkX12_157 rfl rfl (Nat.le_of_ble_eq_true rfl) ⟨Nat.le_of_eq (Nat.zero_add _), Nat.le_of_eq (Nat.zero_add _)⟩ (skT_47 hS) ?_
      refine mC_mono (fun r h7 hr => ?_) K
      obtain ⟨x8, rfl, hS, K⟩ := hr
      show mW _ _ _ _ _ _ [.inl x8, .inr (some 50), .inl (mI h 50 ((16 * v1) + v6).toNatClampNeg), .inl v4] _ _
      obtain ⟨o9, K⟩ := K
      refine mw_ialdL (pc' := 79) dX12_laysLand_78 rfl (skT_50 hS) (skL_50 hS) o9 ?_
      refine mw_callS (pc' := 82) (b' := (0, 0)) (b1 := b) (av := [.inl v4, .inl (mI h 50 ((16 * v1) + v6).toNatClampNeg), .inl (mI h7 50 x8.toNatClampNeg)]) (rest := []) dX12_laysLand_79 rfl lkX12_161 rfl rfl (Nat.le_of_ble_eq_true rfl) ⟨Nat.le_of_eq (Nat.zero_add _), Nat.le_of_eq (Nat.zero_add _)⟩ ?_
      refine pX12_isBetween ?_
      refine mw_if_eq (pc' := 85) (tgt := 97) dX12_laysLand_82 rfl (by decide) (fun c13 => ?_) (fun c13 => ?_)
      · replace K := K.1 c13
        refine mw_iload (pc' := 99) dX12_laysLand_97 rfl rfl ?_
        refine mw_iconst (pc' := 100) (v := 2) dX12_laysLand_99 rfl (by decide) ?_
        refine mw_iadd (pc' := 101) dX12_laysLand_100 rfl ?_
        refine mw_istore (pc' := 103) dX12_laysLand_101 rfl (by decide) ?_
        show mW _ _ _ _ _ [some (.inr (some 47)), some (.inl v1), some (.inl v2), some (.inl v3), some (.inl v4), some (.inl v5), some (.inl (v6 + 2))] _ _ _
        refine mw_goto (tgt := 26) dX12_laysLand_103 (by decide) ?_
        exact K
      · replace K := K.2 c13
        refine mw_iload (pc' := 87) dX12_laysLand_85 rfl rfl ?_
        have J11 : ∀ w10 : Int32, w10 = (if ¬ v5 = 0 then 0 else 1) → mW G kX12_laysLand (d + 1) b 95 [some (.inr (some 47)), some (.inl v1), some (.inl v2), some (.inl v3), some (.inl v4), some (.inl v5), some (.inl v6)] ([.inl w10]) h7 Q := by
          intro w10 ew10
          replace K := K w10 ew10
          refine mw_istore (pc' := 97) dX12_laysLand_95 rfl (by decide) ?_
          show mW _ _ _ _ _ [some (.inr (some 47)), some (.inl v1), some (.inl v2), some (.inl v3), some (.inl v4), some (.inl w10), some (.inl v6)] _ _ _
          refine mw_iload (pc' := 99) dX12_laysLand_97 rfl rfl ?_
          refine mw_iconst (pc' := 100) (v := 2) dX12_laysLand_99 rfl (by decide) ?_
          refine mw_iadd (pc' := 101) dX12_laysLand_100 rfl ?_
          refine mw_istore (pc' := 103) dX12_laysLand_101 rfl (by decide) ?_
          show mW _ _ _ _ _ [some (.inr (some 47)), some (.inl v1), some (.inl v2), some (.inl v3), some (.inl v4), some (.inl w10), some (.inl (v6 + 2))] _ _ _
          refine mw_goto (tgt := 26) dX12_laysLand_103 (by decide) ?_
          exact K
        refine mw_if_ne (pc' := 90) (tgt := 94) dX12_laysLand_87 rfl (by decide) (fun c12 => ?_) (fun c12 => ?_)
        · refine mw_iconst (pc' := 95) (v := 0) dX12_laysLand_94 rfl (by decide) ?_
          exact J11 _ (by rw [if_pos c12])
        · refine mw_iconst (pc' := 91) (v := 1) dX12_laysLand_90 rfl (by decide) ?_
          refine mw_goto (tgt := 95) dX12_laysLand_91 (by decide) ?_
          exact J11 _ (by rw [if_neg (fun z => z c12)])

set_option maxRecDepth 100000 in
set_option maxHeartbeats 4000000 in
theorem qX12_firstWrong {G : mG} {d : Nat} {b : Nat × Nat} {h : mH} {Q : Option mV → mH → Prop} (v1 : Int32) (hS : mSk h)
    (K : vp_in (mI h 47 0) 8 ∧ ∀ h2, h2 = mSI h 48 (mI h 47 0).toNatClampNeg v1 → mW G kX12_firstWrong (d + 2) b 14 [some (.inr (some 47)), some (.inl v1), some (.inl (mI h 47 0)), some (.inl 0)] [] h2 Q) : mC G kX12_firstWrong (d + 2) b [.inr (some 47), .inl v1] h Q := by
  refine mC_in rfl (Nat.le_of_ble_eq_true rfl) ?_
  show mW _ _ _ _ _ [some (.inr (some 47)), some (.inl v1), none, none] _ _ _
  refine mw_aload_n (pc' := 1) dX12_firstWrong_0 rfl rfl ?_
  refine mw_getI (pc' := 4) dX12_firstWrong_1 rfl flX12_154 rfl (skT_47 hS) ?_
  refine mw_istore_n (pc' := 5) dX12_firstWrong_4 rfl (by decide) ?_
  show mW _ _ _ _ _ [some (.inr (some 47)), some (.inl v1), some (.inl (mI h 47 0)), none] _ _ _
  refine mw_aload_n (pc' := 6) dX12_firstWrong_5 rfl rfl ?_
  refine mw_getR (pc' := 9) dX12_firstWrong_6 rfl flX12_7 rfl (skT_47 hS) ?_
  rw [skR_47_1 hS]
  refine mw_iload_n (pc' := 10) dX12_firstWrong_9 rfl rfl ?_
  refine mw_iload_n (pc' := 11) dX12_firstWrong_10 rfl rfl ?_
  obtain ⟨o1, K⟩ := K
  refine mw_iastK (pc' := 12) dX12_firstWrong_11 rfl (skT_48 hS) (skL_48 hS) o1 hS (fun h2 eh2 hS => ?_)
  replace K := K h2 eh2
  refine mw_iconst (pc' := 13) (v := 0) dX12_firstWrong_12 rfl (by decide) ?_
  refine mw_istore_n (pc' := 14) dX12_firstWrong_13 rfl (by decide) ?_
  show mW _ _ _ _ _ [some (.inr (some 47)), some (.inl v1), some (.inl (mI h 47 0)), some (.inl 0)] _ _ _
  exact K

set_option maxRecDepth 100000 in
set_option maxHeartbeats 4000000 in
theorem qX12_firstWrong_14 {G : mG} {d : Nat} {b : Nat × Nat} {h : mH} {Q : Option mV → mH → Prop} (v1 : Int32) (v2 : Int32) (v3 : Int32) (hS : mSk h)
    (K : ((v1 ≤ v3 → mW G kX12_firstWrong (d + 2) b 142 [some (.inr (some 47)), some (.inl v1), some (.inl v2), some (.inl 0)] [] h Q) ∧ (¬ (v1 ≤ v3) → vp_in (2 * v3) 220 ∧ ((¬ (f_X12_isCorner (mI h 57 (2 * v3).toNatClampNeg)) = 0 → vp_in ((2 * v3) + 1) 220 ∧ ((¬ (f_X12_isCorner (mI h 57 ((2 * v3) + 1).toNatClampNeg)) = 0 → vp_in (2 * v3) 220 ∧ vp_in ((16 * v2) + v3) 128 ∧ ∀ h5, h5 = mSI h 49 ((16 * v2) + v3).toNatClampNeg (mI h 57 (2 * v3).toNatClampNeg) → vp_in ((2 * v3) + 1) 220 ∧ vp_in ((16 * v2) + v3) 128 ∧ ∀ h8, h8 = mSI h5 50 ((16 * v2) + v3).toNatClampNeg (mI h5 57 ((2 * v3) + 1).toNatClampNeg) → ((v3 ≤ 0 → ((¬ v3 = (v1 - 1) → mW G kX12_firstWrong (d + 2) b 14 [some (.inr (some 47)), some (.inl v1), some (.inl v2), some (.inl (v3 + 1))] [] h8 Q) ∧ (v3 = (v1 - 1) → mC G kX12_isSide (d + 1) (0, 0) [.inr (some 47), .inl v2, .inl v3] h8 (fun r h9 => ∃ x10, r = some (.inl x10) ∧ mSk h9 ∧ ((¬ x10 = 0 → mW G kX12_firstWrong (d + 2) b 14 [some (.inr (some 47)), some (.inl v1), some (.inl v2), some (.inl (v3 + 1))] [] h9 Q) ∧ (x10 = 0 → Q (some (.inl (2 * v3))) h9)))))) ∧ (¬ (v3 ≤ 0) → mC G kX12_isSide (d + 1) (0, 0) [.inr (some 47), .inl v2, .inl (v3 - 1)] h8 (fun r h13 => ∃ x14, r = some (.inl x14) ∧ mSk h13 ∧ ((x14 = 0 → Q (some (.inl (2 * v3))) h13) ∧ (¬ x14 = 0 → ((¬ v3 = (v1 - 1) → mW G kX12_firstWrong (d + 2) b 14 [some (.inr (some 47)), some (.inl v1), some (.inl v2), some (.inl (v3 + 1))] [] h13 Q) ∧ (v3 = (v1 - 1) → mC G kX12_isSide (d + 1) (0, 0) [.inr (some 47), .inl v2, .inl v3] h13 (fun r h15 => ∃ x16, r = some (.inl x16) ∧ mSk h15 ∧ ((¬ x16 = 0 → mW G kX12_firstWrong (d + 2) b 14 [some (.inr (some 47)), some (.inl v1), some (.inl v2), some (.inl (v3 + 1))] [] h15 Q) ∧ (x16 = 0 → Q (some (.inl (2 * v3))) h15))))))))))) ∧ ((f_X12_isCorner (mI h 57 ((2 * v3) + 1).toNatClampNeg)) = 0 → Q (some (.inl ((2 * v3) + 1))) h))) ∧ ((f_X12_isCorner (mI h 57 (2 * v3).toNatClampNeg)) = 0 → Q (some (.inl (2 * v3))) h))))) : mW G kX12_firstWrong (d + 2) b 14 [some (.inr (some 47)), some (.inl v1), some (.inl v2), some (.inl v3)] [] h Q := by
  refine mw_iload_n (pc' := 15) dX12_firstWrong_14 rfl rfl ?_
  refine mw_iload_n (pc' := 16) dX12_firstWrong_15 rfl rfl ?_
  refine mw_icmp_ge (pc' := 19) (tgt := 140) dX12_firstWrong_16 rfl (by decide) (fun c23 => ?_) (fun c23 => ?_)
  · replace K := K.1 c23
    refine mw_iconst (pc' := 141) (v := 0) dX12_firstWrong_140 rfl (by decide) ?_
    refine mw_istore_n (pc' := 142) dX12_firstWrong_141 rfl (by decide) ?_
    show mW _ _ _ _ _ [some (.inr (some 47)), some (.inl v1), some (.inl v2), some (.inl 0)] _ _ _
    exact K
  · replace K := K.2 c23
    refine mw_aload_n (pc' := 20) dX12_firstWrong_19 rfl rfl ?_
    refine mw_getR (pc' := 23) dX12_firstWrong_20 rfl flX12_38 rfl (skT_47 hS) ?_
    rw [skR_47_11 hS]
    refine mw_iconst (pc' := 24) (v := 2) dX12_firstWrong_23 rfl (by decide) ?_
    refine mw_iload_n (pc' := 25) dX12_firstWrong_24 rfl rfl ?_
    refine mw_imul (pc' := 26) dX12_firstWrong_25 rfl ?_
    obtain ⟨o1, K⟩ := K
    refine mw_yaldL (pc' := 27) dX12_firstWrong_26 rfl (skT_57 hS) (skL_57 hS) o1 ?_
    refine mw_callS (pc' := 30) (b' := (0, 0)) (b1 := b) (av := [.inl (mI h 57 (2 * v3).toNatClampNeg)]) (rest := []) dX12_firstWrong_27 rfl lkX12_165 rfl rfl (Nat.le_of_ble_eq_true rfl) ⟨Nat.le_of_eq (Nat.zero_add _), Nat.le_of_eq (Nat.zero_add _)⟩ ?_
    refine pX12_isCorner ?_
    refine mw_if_ne (pc' := 33) (tgt := 37) dX12_firstWrong_30 rfl (by decide) (fun c22 => ?_) (fun c22 => ?_)
    · replace K := K.1 c22
      refine mw_aload_n (pc' := 38) dX12_firstWrong_37 rfl rfl ?_
      refine mw_getR (pc' := 41) dX12_firstWrong_38 rfl flX12_38 rfl (skT_47 hS) ?_
      rw [skR_47_11 hS]
      refine mw_iconst (pc' := 42) (v := 2) dX12_firstWrong_41 rfl (by decide) ?_
      refine mw_iload_n (pc' := 43) dX12_firstWrong_42 rfl rfl ?_
      refine mw_imul (pc' := 44) dX12_firstWrong_43 rfl ?_
      refine mw_iconst (pc' := 45) (v := 1) dX12_firstWrong_44 rfl (by decide) ?_
      refine mw_iadd (pc' := 46) dX12_firstWrong_45 rfl ?_
      obtain ⟨o2, K⟩ := K
      refine mw_yaldL (pc' := 47) dX12_firstWrong_46 rfl (skT_57 hS) (skL_57 hS) o2 ?_
      refine mw_callS (pc' := 50) (b' := (0, 0)) (b1 := b) (av := [.inl (mI h 57 ((2 * v3) + 1).toNatClampNeg)]) (rest := []) dX12_firstWrong_47 rfl lkX12_165 rfl rfl (Nat.le_of_ble_eq_true rfl) ⟨Nat.le_of_eq (Nat.zero_add _), Nat.le_of_eq (Nat.zero_add _)⟩ ?_
      refine pX12_isCorner ?_
      refine mw_if_ne (pc' := 53) (tgt := 59) dX12_firstWrong_50 rfl (by decide) (fun c21 => ?_) (fun c21 => ?_)
      · replace K := K.1 c21
        refine mw_aload_n (pc' := 60) dX12_firstWrong_59 rfl rfl ?_
        refine mw_getR (pc' := 63) dX12_firstWrong_60 rfl flX12_13 rfl (skT_47 hS) ?_
        rw [skR_47_2 hS]
        refine mw_bipush (pc' := 65) (v := 16) dX12_firstWrong_63 rfl (by decide) ?_
        refine mw_iload_n (pc' := 66) dX12_firstWrong_65 rfl rfl ?_
        refine mw_imul (pc' := 67) dX12_firstWrong_66 rfl ?_
        refine mw_iload_n (pc' := 68) dX12_firstWrong_67 rfl rfl ?_
        refine mw_iadd (pc' := 69) dX12_firstWrong_68 rfl ?_
        refine mw_aload_n (pc' := 70) dX12_firstWrong_69 rfl rfl ?_
        refine mw_getR (pc' := 73) dX12_firstWrong_70 rfl flX12_38 rfl (skT_47 hS) ?_
        rw [skR_47_11 hS]
        refine mw_iconst (pc' := 74) (v := 2) dX12_firstWrong_73 rfl (by decide) ?_
        refine mw_iload_n (pc' := 75) dX12_firstWrong_74 rfl rfl ?_
        refine mw_imul (pc' := 76) dX12_firstWrong_75 rfl ?_
        obtain ⟨o3, K⟩ := K
        refine mw_yaldL (pc' := 77) dX12_firstWrong_76 rfl (skT_57 hS) (skL_57 hS) o3 ?_
        obtain ⟨o4, K⟩ := K
        refine mw_iastK (pc' := 78) dX12_firstWrong_77 rfl (skT_49 hS) (skL_49 hS) o4 hS (fun h5 eh5 hS => ?_)
        replace K := K h5 eh5
        refine mw_aload_n (pc' := 79) dX12_firstWrong_78 rfl rfl ?_
        refine mw_getR (pc' := 82) dX12_firstWrong_79 rfl flX12_16 rfl (skT_47 hS) ?_
        rw [skR_47_3 hS]
        refine mw_bipush (pc' := 84) (v := 16) dX12_firstWrong_82 rfl (by decide) ?_
        refine mw_iload_n (pc' := 85) dX12_firstWrong_84 rfl rfl ?_
        refine mw_imul (pc' := 86) dX12_firstWrong_85 rfl ?_
        refine mw_iload_n (pc' := 87) dX12_firstWrong_86 rfl rfl ?_
        refine mw_iadd (pc' := 88) dX12_firstWrong_87 rfl ?_
        refine mw_aload_n (pc' := 89) dX12_firstWrong_88 rfl rfl ?_
        refine mw_getR (pc' := 92) dX12_firstWrong_89 rfl flX12_38 rfl (skT_47 hS) ?_
        rw [skR_47_11 hS]
        refine mw_iconst (pc' := 93) (v := 2) dX12_firstWrong_92 rfl (by decide) ?_
        refine mw_iload_n (pc' := 94) dX12_firstWrong_93 rfl rfl ?_
        refine mw_imul (pc' := 95) dX12_firstWrong_94 rfl ?_
        refine mw_iconst (pc' := 96) (v := 1) dX12_firstWrong_95 rfl (by decide) ?_
        refine mw_iadd (pc' := 97) dX12_firstWrong_96 rfl ?_
        obtain ⟨o6, K⟩ := K
        refine mw_yaldL (pc' := 98) dX12_firstWrong_97 rfl (skT_57 hS) (skL_57 hS) o6 ?_
        obtain ⟨o7, K⟩ := K
        refine mw_iastK (pc' := 99) dX12_firstWrong_98 rfl (skT_50 hS) (skL_50 hS) o7 hS (fun h8 eh8 hS => ?_)
        replace K := K h8 eh8
        refine mw_iload_n (pc' := 100) dX12_firstWrong_99 rfl rfl ?_
        refine mw_if_le (pc' := 103) (tgt := 114) dX12_firstWrong_100 rfl (by decide) (fun c20 => ?_) (fun c20 => ?_)
        · replace K := K.1 c20
          refine mw_iload_n (pc' := 115) dX12_firstWrong_114 rfl rfl ?_
          refine mw_iload_n (pc' := 116) dX12_firstWrong_115 rfl rfl ?_
          refine mw_iconst (pc' := 117) (v := 1) dX12_firstWrong_116 rfl (by decide) ?_
          refine mw_isub (pc' := 118) dX12_firstWrong_117 rfl ?_
          refine mw_icmp_ne (pc' := 121) (tgt := 134) dX12_firstWrong_118 rfl (by decide) (fun c12 => ?_) (fun c12 => ?_)
          · replace K := K.1 c12
            refine mw_iinc (pc' := 137) (v := v3 + 1) dX12_firstWrong_134 rfl (by decide) rfl rfl ?_
            show mW _ _ _ _ _ [some (.inr (some 47)), some (.inl v1), some (.inl v2), some (.inl (v3 + 1))] _ _ _
            refine mw_goto (tgt := 14) dX12_firstWrong_137 (by decide) ?_
            exact K
          · replace K := K.2 c12
            refine mw_aload_n (pc' := 122) dX12_firstWrong_121 rfl rfl ?_
            refine mw_iload_n (pc' := 123) dX12_firstWrong_122 rfl rfl ?_
            refine mw_iload_n (pc' := 124) dX12_firstWrong_123 rfl rfl ?_
            refine mw_callV (pc' := 127) (b' := (0, 0)) (b1 := b) (av := [.inl v2, .inl v3]) (rest := []) dX12_firstWrong_124 rfl lkX12_169 rfl rfl (Nat.le_of_ble_eq_true rfl) ⟨Nat.le_of_eq (Nat.zero_add _), Nat.le_of_eq (Nat.zero_add _)⟩ (skT_47 hS) ?_
            refine mC_mono (fun r h9 hr => ?_) K
            obtain ⟨x10, rfl, hS, K⟩ := hr
            show mW _ _ _ _ _ _ [.inl x10] _ _
            refine mw_if_ne (pc' := 130) (tgt := 134) dX12_firstWrong_127 rfl (by decide) (fun c11 => ?_) (fun c11 => ?_)
            · replace K := K.1 c11
              refine mw_iinc (pc' := 137) (v := v3 + 1) dX12_firstWrong_134 rfl (by decide) rfl rfl ?_
              show mW _ _ _ _ _ [some (.inr (some 47)), some (.inl v1), some (.inl v2), some (.inl (v3 + 1))] _ _ _
              refine mw_goto (tgt := 14) dX12_firstWrong_137 (by decide) ?_
              exact K
            · replace K := K.2 c11
              refine mw_iconst (pc' := 131) (v := 2) dX12_firstWrong_130 rfl (by decide) ?_
              refine mw_iload_n (pc' := 132) dX12_firstWrong_131 rfl rfl ?_
              refine mw_imul (pc' := 133) dX12_firstWrong_132 rfl ?_
              exact mw_iret dX12_firstWrong_133 rfl rfl K
        · replace K := K.2 c20
          refine mw_aload_n (pc' := 104) dX12_firstWrong_103 rfl rfl ?_
          refine mw_iload_n (pc' := 105) dX12_firstWrong_104 rfl rfl ?_
          refine mw_iload_n (pc' := 106) dX12_firstWrong_105 rfl rfl ?_
          refine mw_iconst (pc' := 107) (v := 1) dX12_firstWrong_106 rfl (by decide) ?_
          refine mw_isub (pc' := 108) dX12_firstWrong_107 rfl ?_
          refine mw_callV (pc' := 111) (b' := (0, 0)) (b1 := b) (av := [.inl v2, .inl (v3 - 1)]) (rest := []) dX12_firstWrong_108 rfl lkX12_169 rfl rfl (Nat.le_of_ble_eq_true rfl) ⟨Nat.le_of_eq (Nat.zero_add _), Nat.le_of_eq (Nat.zero_add _)⟩ (skT_47 hS) ?_
          refine mC_mono (fun r h13 hr => ?_) K
          obtain ⟨x14, rfl, hS, K⟩ := hr
          show mW _ _ _ _ _ _ [.inl x14] _ _
          refine mw_if_eq (pc' := 114) (tgt := 130) dX12_firstWrong_111 rfl (by decide) (fun c19 => ?_) (fun c19 => ?_)
          · replace K := K.1 c19
            refine mw_iconst (pc' := 131) (v := 2) dX12_firstWrong_130 rfl (by decide) ?_
            refine mw_iload_n (pc' := 132) dX12_firstWrong_131 rfl rfl ?_
            refine mw_imul (pc' := 133) dX12_firstWrong_132 rfl ?_
            exact mw_iret dX12_firstWrong_133 rfl rfl K
          · replace K := K.2 c19
            refine mw_iload_n (pc' := 115) dX12_firstWrong_114 rfl rfl ?_
            refine mw_iload_n (pc' := 116) dX12_firstWrong_115 rfl rfl ?_
            refine mw_iconst (pc' := 117) (v := 1) dX12_firstWrong_116 rfl (by decide) ?_
            refine mw_isub (pc' := 118) dX12_firstWrong_117 rfl ?_
            refine mw_icmp_ne (pc' := 121) (tgt := 134) dX12_firstWrong_118 rfl (by decide) (fun c18 => ?_) (fun c18 => ?_)
            · replace K := K.1 c18
              refine mw_iinc (pc' := 137) (v := v3 + 1) dX12_firstWrong_134 rfl (by decide) rfl rfl ?_
              show mW _ _ _ _ _ [some (.inr (some 47)), some (.inl v1), some (.inl v2), some (.inl (v3 + 1))] _ _ _
              refine mw_goto (tgt := 14) dX12_firstWrong_137 (by decide) ?_
              exact K
            · replace K := K.2 c18
              refine mw_aload_n (pc' := 122) dX12_firstWrong_121 rfl rfl ?_
              refine mw_iload_n (pc' := 123) dX12_firstWrong_122 rfl rfl ?_
              refine mw_iload_n (pc' := 124) dX12_firstWrong_123 rfl rfl ?_
              refine mw_callV (pc' := 127) (b' := (0, 0)) (b1 := b) (av := [.inl v2, .inl v3]) (rest := []) dX12_firstWrong_124 rfl lkX12_169 rfl rfl (Nat.le_of_ble_eq_true rfl) ⟨Nat.le_of_eq (Nat.zero_add _), Nat.le_of_eq (Nat.zero_add _)⟩ (skT_47 hS) ?_
              refine mC_mono (fun r h15 hr => ?_) K
              obtain ⟨x16, rfl, hS, K⟩ := hr
              show mW _ _ _ _ _ _ [.inl x16] _ _
              refine mw_if_ne (pc' := 130) (tgt := 134) dX12_firstWrong_127 rfl (by decide) (fun c17 => ?_) (fun c17 => ?_)
              · replace K := K.1 c17
                refine mw_iinc (pc' := 137) (v := v3 + 1) dX12_firstWrong_134 rfl (by decide) rfl rfl ?_
                show mW _ _ _ _ _ [some (.inr (some 47)), some (.inl v1), some (.inl v2), some (.inl (v3 + 1))] _ _ _
                refine mw_goto (tgt := 14) dX12_firstWrong_137 (by decide) ?_
                exact K
              · replace K := K.2 c17
                refine mw_iconst (pc' := 131) (v := 2) dX12_firstWrong_130 rfl (by decide) ?_
                refine mw_iload_n (pc' := 132) dX12_firstWrong_131 rfl rfl ?_
                refine mw_imul (pc' := 133) dX12_firstWrong_132 rfl ?_
                exact mw_iret dX12_firstWrong_133 rfl rfl K
      · replace K := K.2 c21
        refine mw_iconst (pc' := 54) (v := 2) dX12_firstWrong_53 rfl (by decide) ?_
        refine mw_iload_n (pc' := 55) dX12_firstWrong_54 rfl rfl ?_
        refine mw_imul (pc' := 56) dX12_firstWrong_55 rfl ?_
        refine mw_iconst (pc' := 57) (v := 1) dX12_firstWrong_56 rfl (by decide) ?_
        refine mw_iadd (pc' := 58) dX12_firstWrong_57 rfl ?_
        exact mw_iret dX12_firstWrong_58 rfl rfl K
    · replace K := K.2 c22
      refine mw_iconst (pc' := 34) (v := 2) dX12_firstWrong_33 rfl (by decide) ?_
      refine mw_iload_n (pc' := 35) dX12_firstWrong_34 rfl rfl ?_
      refine mw_imul (pc' := 36) dX12_firstWrong_35 rfl ?_
      exact mw_iret dX12_firstWrong_36 rfl rfl K

set_option maxRecDepth 100000 in
set_option maxHeartbeats 4000000 in
theorem qX12_firstWrong_142 {G : mG} {d : Nat} {b : Nat × Nat} {h : mH} {Q : Option mV → mH → Prop} (v1 : Int32) (v2 : Int32) (v3 : Int32) (hS : mSk h)
    (K : ((v1 ≤ v3 → Q (some (.inl (-1))) h) ∧ (¬ (v1 ≤ v3) → vp_in ((2 * v1) + v3) 220 ∧ ((¬ (f_X12_in (mI h 57 ((2 * v1) + v3).toNatClampNeg) 0 2) = 0 → vp_in ((2 * v1) + v3) 220 ∧ vp_in ((16 * v2) + v3) 128 ∧ ∀ h4, h4 = mSI h 51 ((16 * v2) + v3).toNatClampNeg (mI h 57 ((2 * v1) + v3).toNatClampNeg) → mW G kX12_firstWrong (d + 2) b 142 [some (.inr (some 47)), some (.inl v1), some (.inl v2), some (.inl (v3 + 1))] [] h4 Q) ∧ ((f_X12_in (mI h 57 ((2 * v1) + v3).toNatClampNeg) 0 2) = 0 → Q (some (.inl ((2 * v1) + v3))) h))))) : mW G kX12_firstWrong (d + 2) b 142 [some (.inr (some 47)), some (.inl v1), some (.inl v2), some (.inl v3)] [] h Q := by
  refine mw_iload_n (pc' := 143) dX12_firstWrong_142 rfl rfl ?_
  refine mw_iload_n (pc' := 144) dX12_firstWrong_143 rfl rfl ?_
  refine mw_icmp_ge (pc' := 147) (tgt := 198) dX12_firstWrong_144 rfl (by decide) (fun c6 => ?_) (fun c6 => ?_)
  · replace K := K.1 c6
    refine mw_iconst (pc' := 199) (v := (-1)) dX12_firstWrong_198 rfl (by decide) ?_
    exact mw_iret dX12_firstWrong_199 rfl rfl K
  · replace K := K.2 c6
    refine mw_aload_n (pc' := 148) dX12_firstWrong_147 rfl rfl ?_
    refine mw_getR (pc' := 151) dX12_firstWrong_148 rfl flX12_38 rfl (skT_47 hS) ?_
    rw [skR_47_11 hS]
    refine mw_iconst (pc' := 152) (v := 2) dX12_firstWrong_151 rfl (by decide) ?_
    refine mw_iload_n (pc' := 153) dX12_firstWrong_152 rfl rfl ?_
    refine mw_imul (pc' := 154) dX12_firstWrong_153 rfl ?_
    refine mw_iload_n (pc' := 155) dX12_firstWrong_154 rfl rfl ?_
    refine mw_iadd (pc' := 156) dX12_firstWrong_155 rfl ?_
    obtain ⟨o1, K⟩ := K
    refine mw_yaldL (pc' := 157) dX12_firstWrong_156 rfl (skT_57 hS) (skL_57 hS) o1 ?_
    refine mw_iconst (pc' := 158) (v := 0) dX12_firstWrong_157 rfl (by decide) ?_
    refine mw_iconst (pc' := 159) (v := 2) dX12_firstWrong_158 rfl (by decide) ?_
    refine mw_callS (pc' := 162) (b' := (0, 0)) (b1 := b) (av := [.inl (mI h 57 ((2 * v1) + v3).toNatClampNeg), .inl 0, .inl 2]) (rest := []) dX12_firstWrong_159 rfl lkX12_173 rfl rfl (Nat.le_of_ble_eq_true rfl) ⟨Nat.le_of_eq (Nat.zero_add _), Nat.le_of_eq (Nat.zero_add _)⟩ ?_
    refine pX12_in ?_
    refine mw_if_ne (pc' := 165) (tgt := 171) dX12_firstWrong_162 rfl (by decide) (fun c5 => ?_) (fun c5 => ?_)
    · replace K := K.1 c5
      refine mw_aload_n (pc' := 172) dX12_firstWrong_171 rfl rfl ?_
      refine mw_getR (pc' := 175) dX12_firstWrong_172 rfl flX12_19 rfl (skT_47 hS) ?_
      rw [skR_47_4 hS]
      refine mw_bipush (pc' := 177) (v := 16) dX12_firstWrong_175 rfl (by decide) ?_
      refine mw_iload_n (pc' := 178) dX12_firstWrong_177 rfl rfl ?_
      refine mw_imul (pc' := 179) dX12_firstWrong_178 rfl ?_
      refine mw_iload_n (pc' := 180) dX12_firstWrong_179 rfl rfl ?_
      refine mw_iadd (pc' := 181) dX12_firstWrong_180 rfl ?_
      refine mw_aload_n (pc' := 182) dX12_firstWrong_181 rfl rfl ?_
      refine mw_getR (pc' := 185) dX12_firstWrong_182 rfl flX12_38 rfl (skT_47 hS) ?_
      rw [skR_47_11 hS]
      refine mw_iconst (pc' := 186) (v := 2) dX12_firstWrong_185 rfl (by decide) ?_
      refine mw_iload_n (pc' := 187) dX12_firstWrong_186 rfl rfl ?_
      refine mw_imul (pc' := 188) dX12_firstWrong_187 rfl ?_
      refine mw_iload_n (pc' := 189) dX12_firstWrong_188 rfl rfl ?_
      refine mw_iadd (pc' := 190) dX12_firstWrong_189 rfl ?_
      obtain ⟨o2, K⟩ := K
      refine mw_yaldL (pc' := 191) dX12_firstWrong_190 rfl (skT_57 hS) (skL_57 hS) o2 ?_
      obtain ⟨o3, K⟩ := K
      refine mw_iastK (pc' := 192) dX12_firstWrong_191 rfl (skT_51 hS) (skL_51 hS) o3 hS (fun h4 eh4 hS => ?_)
      replace K := K h4 eh4
      refine mw_iinc (pc' := 195) (v := v3 + 1) dX12_firstWrong_192 rfl (by decide) rfl rfl ?_
      show mW _ _ _ _ _ [some (.inr (some 47)), some (.inl v1), some (.inl v2), some (.inl (v3 + 1))] _ _ _
      refine mw_goto (tgt := 142) dX12_firstWrong_195 (by decide) ?_
      exact K
    · replace K := K.2 c5
      refine mw_iconst (pc' := 166) (v := 2) dX12_firstWrong_165 rfl (by decide) ?_
      refine mw_iload_n (pc' := 167) dX12_firstWrong_166 rfl rfl ?_
      refine mw_imul (pc' := 168) dX12_firstWrong_167 rfl ?_
      refine mw_iload_n (pc' := 169) dX12_firstWrong_168 rfl rfl ?_
      refine mw_iadd (pc' := 170) dX12_firstWrong_169 rfl ?_
      exact mw_iret dX12_firstWrong_170 rfl rfl K

set_option maxRecDepth 100000 in
set_option maxHeartbeats 4000000 in
theorem qX12_coast {G : mG} {d : Nat} {b : Nat × Nat} {h : mH} {Q : Option mV → mH → Prop} (v1 : Int32) (hS : mSk h)
    (K : (((f_X12_in v1 4 16) = 0 → Q (some (.inl (-1))) h) ∧ (¬ (f_X12_in v1 4 16) = 0 → (((m_rem v1 2) = 1 → Q (some (.inl (-1))) h) ∧ (¬ (m_rem v1 2) = 1 → (((mI h 47 0) = 8 → Q (some (.inl (-1))) h) ∧ (¬ (mI h 47 0) = 8 → (((3 * v1) ≤ (mI h 47 12) → ∀ h1, h1 = mSI h 47 12 0 → mC G kX12_firstWrong (d + 2) (0, 0) [.inr (some 47), .inl v1] h1 (fun r h2 => ∃ x3, r = some (.inl x3) ∧ mSk h2 ∧ ((x3 = (-1) → mC G kX12_laysLand (d + 2) (0, 0) [.inr (some 47), .inl (mI h2 47 0)] h2 (fun r h4 => r = none ∧ mSk h4 ∧ ∀ h5, h5 = mSI h4 47 0 ((mI h4 47 0) + 1) → Q (some (.inl ((mI h5 47 0) - 1))) h5)) ∧ (¬ x3 = (-1) → Q (some (.inl ((-1000) - x3))) h2)))) ∧ (¬ ((3 * v1) ≤ (mI h 47 12)) → Q (some (.inl (-1))) h))))))))) : mC G kX12_coast (d + 3) b [.inr (some 47), .inl v1] h Q := by
  refine mC_in rfl (Nat.le_of_ble_eq_true rfl) ?_
  show mW _ _ _ _ _ [some (.inr (some 47)), some (.inl v1), none] _ _ _
  refine mw_iload_n (pc' := 1) dX12_coast_0 rfl rfl ?_
  refine mw_iconst (pc' := 2) (v := 4) dX12_coast_1 rfl (by decide) ?_
  refine mw_bipush (pc' := 4) (v := 16) dX12_coast_2 rfl (by decide) ?_
  refine mw_callS (pc' := 7) (b' := (0, 0)) (b1 := b) (av := [.inl v1, .inl 4, .inl 16]) (rest := []) dX12_coast_4 rfl lkX12_173 rfl rfl (Nat.le_of_ble_eq_true rfl) ⟨Nat.le_of_eq (Nat.zero_add _), Nat.le_of_eq (Nat.zero_add _)⟩ ?_
  refine pX12_in ?_
  refine mw_if_eq (pc' := 10) (tgt := 36) dX12_coast_7 rfl (by decide) (fun c10 => ?_) (fun c10 => ?_)
  · replace K := K.1 c10
    refine mw_iconst (pc' := 37) (v := (-1)) dX12_coast_36 rfl (by decide) ?_
    exact mw_iret dX12_coast_37 rfl rfl K
  · replace K := K.2 c10
    refine mw_iload_n (pc' := 11) dX12_coast_10 rfl rfl ?_
    refine mw_iconst (pc' := 12) (v := 2) dX12_coast_11 rfl (by decide) ?_
    refine mw_iremM (pc' := 13) dX12_coast_12 rfl (by decide) ?_
    refine mw_iconst (pc' := 14) (v := 1) dX12_coast_13 rfl (by decide) ?_
    refine mw_icmp_eq (pc' := 17) (tgt := 36) dX12_coast_14 rfl (by decide) (fun c9 => ?_) (fun c9 => ?_)
    · replace K := K.1 c9
      refine mw_iconst (pc' := 37) (v := (-1)) dX12_coast_36 rfl (by decide) ?_
      exact mw_iret dX12_coast_37 rfl rfl K
    · replace K := K.2 c9
      refine mw_aload_n (pc' := 18) dX12_coast_17 rfl rfl ?_
      refine mw_getI (pc' := 21) dX12_coast_18 rfl flX12_154 rfl (skT_47 hS) ?_
      refine mw_bipush (pc' := 23) (v := 8) dX12_coast_21 rfl (by decide) ?_
      refine mw_icmp_eq (pc' := 26) (tgt := 36) dX12_coast_23 rfl (by decide) (fun c8 => ?_) (fun c8 => ?_)
      · replace K := K.1 c8
        refine mw_iconst (pc' := 37) (v := (-1)) dX12_coast_36 rfl (by decide) ?_
        exact mw_iret dX12_coast_37 rfl rfl K
      · replace K := K.2 c8
        refine mw_iconst (pc' := 27) (v := 3) dX12_coast_26 rfl (by decide) ?_
        refine mw_iload_n (pc' := 28) dX12_coast_27 rfl rfl ?_
        refine mw_imul (pc' := 29) dX12_coast_28 rfl ?_
        refine mw_aload_n (pc' := 30) dX12_coast_29 rfl rfl ?_
        refine mw_getI (pc' := 33) dX12_coast_30 rfl flX12_176 rfl (skT_47 hS) ?_
        refine mw_icmp_le (pc' := 36) (tgt := 38) dX12_coast_33 rfl (by decide) (fun c7 => ?_) (fun c7 => ?_)
        · replace K := K.1 c7
          refine mw_aload_n (pc' := 39) dX12_coast_38 rfl rfl ?_
          refine mw_iconst (pc' := 40) (v := 0) dX12_coast_39 rfl (by decide) ?_
          refine mw_putIK (pc' := 43) dX12_coast_40 rfl flX12_176 rfl (Or.inl rfl) ⟨rfl, rfl⟩ (skT_47 hS) hS (fun h1 eh1 hS => ?_)
          replace K := K h1 eh1
          refine mw_aload_n (pc' := 44) dX12_coast_43 rfl rfl ?_
          refine mw_iload_n (pc' := 45) dX12_coast_44 rfl rfl ?_
          refine mw_callV (pc' := 48) (b' := (0, 0)) (b1 := b) (av := [.inl v1]) (rest := []) dX12_coast_45 rfl lkX12_179 rfl rfl (Nat.le_of_ble_eq_true rfl) ⟨Nat.le_of_eq (Nat.zero_add _), Nat.le_of_eq (Nat.zero_add _)⟩ (skT_47 hS) ?_
          refine mC_mono (fun r h2 hr => ?_) K
          obtain ⟨x3, rfl, hS, K⟩ := hr
          show mW _ _ _ _ _ _ [.inl x3] _ _
          refine mw_istore_n (pc' := 49) dX12_coast_48 rfl (by decide) ?_
          show mW _ _ _ _ _ [some (.inr (some 47)), some (.inl v1), some (.inl x3)] _ _ _
          refine mw_iload_n (pc' := 50) dX12_coast_49 rfl rfl ?_
          refine mw_iconst (pc' := 51) (v := (-1)) dX12_coast_50 rfl (by decide) ?_
          refine mw_icmp_eq (pc' := 54) (tgt := 60) dX12_coast_51 rfl (by decide) (fun c6 => ?_) (fun c6 => ?_)
          · replace K := K.1 c6
            refine mw_aload_n (pc' := 61) dX12_coast_60 rfl rfl ?_
            refine mw_aload_n (pc' := 62) dX12_coast_61 rfl rfl ?_
            refine mw_getI (pc' := 65) dX12_coast_62 rfl flX12_154 rfl (skT_47 hS) ?_
            refine mw_callV (pc' := 68) (b' := (0, 0)) (b1 := b) (av := [.inl (mI h2 47 0)]) (rest := []) dX12_coast_65 rfl lkX12_183 rfl rfl (Nat.le_of_ble_eq_true rfl) ⟨Nat.le_of_eq (Nat.zero_add _), Nat.le_of_eq (Nat.zero_add _)⟩ (skT_47 hS) ?_
            refine mC_mono (fun r h4 hr => ?_) K
            obtain ⟨rfl, hS, K⟩ := hr
            show mW _ _ _ _ _ _ [] _ _
            refine mw_aload_n (pc' := 69) dX12_coast_68 rfl rfl ?_
            refine mw_aload_n (pc' := 70) dX12_coast_69 rfl rfl ?_
            refine mw_getI (pc' := 73) dX12_coast_70 rfl flX12_154 rfl (skT_47 hS) ?_
            refine mw_iconst (pc' := 74) (v := 1) dX12_coast_73 rfl (by decide) ?_
            refine mw_iadd (pc' := 75) dX12_coast_74 rfl ?_
            refine mw_putIK (pc' := 78) dX12_coast_75 rfl flX12_154 rfl (Or.inl rfl) ⟨rfl, rfl⟩ (skT_47 hS) hS (fun h5 eh5 hS => ?_)
            replace K := K h5 eh5
            refine mw_aload_n (pc' := 79) dX12_coast_78 rfl rfl ?_
            refine mw_getI (pc' := 82) dX12_coast_79 rfl flX12_154 rfl (skT_47 hS) ?_
            refine mw_iconst (pc' := 83) (v := 1) dX12_coast_82 rfl (by decide) ?_
            refine mw_isub (pc' := 84) dX12_coast_83 rfl ?_
            exact mw_iret dX12_coast_84 rfl rfl K
          · replace K := K.2 c6
            refine mw_sipush (pc' := 57) (v := (-1000)) dX12_coast_54 rfl (by decide) ?_
            refine mw_iload_n (pc' := 58) dX12_coast_57 rfl rfl ?_
            refine mw_isub (pc' := 59) dX12_coast_58 rfl ?_
            exact mw_iret dX12_coast_59 rfl rfl K
        · replace K := K.2 c7
          refine mw_iconst (pc' := 37) (v := (-1)) dX12_coast_36 rfl (by decide) ?_
          exact mw_iret dX12_coast_37 rfl rfl K

set_option maxRecDepth 100000 in
set_option maxHeartbeats 4000000 in
theorem qX12_push {G : mG} {d : Nat} {b : Nat × Nat} {h : mH} {Q : Option mV → mH → Prop} (v1 : Int32) (v2 : Int32) (v3 : Int32) (hS : mSk h)
    (K : mC G kX12_isCoast (d + 1) (0, 0) [.inr (some 47), .inl v1] h (fun r h1 => ∃ x2, r = some (.inl x2) ∧ mSk h1 ∧ ((x2 = 0 → Q (some (.inl (-1))) h1) ∧ (¬ x2 = 0 → ((v2 < 0 → Q (some (.inl (-1))) h1) ∧ (¬ (v2 < 0) → vp_in v1 8 ∧ (((mI h1 48 v1.toNatClampNeg) ≤ v2 → Q (some (.inl (-1))) h1) ∧ (¬ ((mI h1 48 v1.toNatClampNeg) ≤ v2) → (((f_X12_in v3 (-9) 9) = 0 → Q (some (.inl (-1))) h1) ∧ (¬ (f_X12_in v3 (-9) 9) = 0 → ((v3 = 0 → Q (some (.inl (-1))) h1) ∧ (¬ v3 = 0 → ((¬ (mI h1 47 0) = 8 → vp_in v1 8 ∧ vp_in (mI h1 47 0) 8 ∧ ∀ h6, h6 = mSI h1 48 (mI h1 47 0).toNatClampNeg (mI h1 48 v1.toNatClampNeg) → mW G kX12_push (d + 2) b 70 [some (.inr (some 47)), some (.inl v1), some (.inl v2), some (.inl v3), some (.inl (mI h1 47 0)), some (.inl 0), none] [] h6 Q) ∧ ((mI h1 47 0) = 8 → Q (some (.inl (-1))) h1)))))))))))))) : mC G kX12_push (d + 2) b [.inr (some 47), .inl v1, .inl v2, .inl v3] h Q := by
  refine mC_in rfl (Nat.le_of_ble_eq_true rfl) ?_
  show mW _ _ _ _ _ [some (.inr (some 47)), some (.inl v1), some (.inl v2), some (.inl v3), none, none, none] _ _ _
  refine mw_aload_n (pc' := 1) dX12_push_0 rfl rfl ?_
  refine mw_iload_n (pc' := 2) dX12_push_1 rfl rfl ?_
  refine mw_callV (pc' := 5) (b' := (0, 0)) (b1 := b) (av := [.inl v1]) (rest := []) dX12_push_2 rfl lkX12_187 rfl rfl (Nat.le_of_ble_eq_true rfl) ⟨Nat.le_of_eq (Nat.zero_add _), Nat.le_of_eq (Nat.zero_add _)⟩ (skT_47 hS) ?_
  refine mC_mono (fun r h1 hr => ?_) K
  obtain ⟨x2, rfl, hS, K⟩ := hr
  show mW _ _ _ _ _ _ [.inl x2] _ _
  refine mw_if_eq (pc' := 8) (tgt := 46) dX12_push_5 rfl (by decide) (fun c12 => ?_) (fun c12 => ?_)
  · replace K := K.1 c12
    refine mw_iconst (pc' := 47) (v := (-1)) dX12_push_46 rfl (by decide) ?_
    exact mw_iret dX12_push_47 rfl rfl K
  · replace K := K.2 c12
    refine mw_iload_n (pc' := 9) dX12_push_8 rfl rfl ?_
    refine mw_if_lt (pc' := 12) (tgt := 46) dX12_push_9 rfl (by decide) (fun c11 => ?_) (fun c11 => ?_)
    · replace K := K.1 c11
      refine mw_iconst (pc' := 47) (v := (-1)) dX12_push_46 rfl (by decide) ?_
      exact mw_iret dX12_push_47 rfl rfl K
    · replace K := K.2 c11
      refine mw_iload_n (pc' := 13) dX12_push_12 rfl rfl ?_
      refine mw_aload_n (pc' := 14) dX12_push_13 rfl rfl ?_
      refine mw_getR (pc' := 17) dX12_push_14 rfl flX12_7 rfl (skT_47 hS) ?_
      rw [skR_47_1 hS]
      refine mw_iload_n (pc' := 18) dX12_push_17 rfl rfl ?_
      obtain ⟨o3, K⟩ := K
      refine mw_ialdL (pc' := 19) dX12_push_18 rfl (skT_48 hS) (skL_48 hS) o3 ?_
      refine mw_icmp_ge (pc' := 22) (tgt := 46) dX12_push_19 rfl (by decide) (fun c10 => ?_) (fun c10 => ?_)
      · replace K := K.1 c10
        refine mw_iconst (pc' := 47) (v := (-1)) dX12_push_46 rfl (by decide) ?_
        exact mw_iret dX12_push_47 rfl rfl K
      · replace K := K.2 c10
        refine mw_iload_n (pc' := 23) dX12_push_22 rfl rfl ?_
        refine mw_bipush (pc' := 25) (v := (-9)) dX12_push_23 rfl (by decide) ?_
        refine mw_bipush (pc' := 27) (v := 9) dX12_push_25 rfl (by decide) ?_
        refine mw_callS (pc' := 30) (b' := (0, 0)) (b1 := b) (av := [.inl v3, .inl (-9), .inl 9]) (rest := []) dX12_push_27 rfl lkX12_173 rfl rfl (Nat.le_of_ble_eq_true rfl) ⟨Nat.le_of_eq (Nat.zero_add _), Nat.le_of_eq (Nat.zero_add _)⟩ ?_
        refine pX12_in ?_
        refine mw_if_eq (pc' := 33) (tgt := 46) dX12_push_30 rfl (by decide) (fun c9 => ?_) (fun c9 => ?_)
        · replace K := K.1 c9
          refine mw_iconst (pc' := 47) (v := (-1)) dX12_push_46 rfl (by decide) ?_
          exact mw_iret dX12_push_47 rfl rfl K
        · replace K := K.2 c9
          refine mw_iload_n (pc' := 34) dX12_push_33 rfl rfl ?_
          refine mw_if_eq (pc' := 37) (tgt := 46) dX12_push_34 rfl (by decide) (fun c8 => ?_) (fun c8 => ?_)
          · replace K := K.1 c8
            refine mw_iconst (pc' := 47) (v := (-1)) dX12_push_46 rfl (by decide) ?_
            exact mw_iret dX12_push_47 rfl rfl K
          · replace K := K.2 c8
            refine mw_aload_n (pc' := 38) dX12_push_37 rfl rfl ?_
            refine mw_getI (pc' := 41) dX12_push_38 rfl flX12_154 rfl (skT_47 hS) ?_
            refine mw_bipush (pc' := 43) (v := 8) dX12_push_41 rfl (by decide) ?_
            refine mw_icmp_ne (pc' := 46) (tgt := 48) dX12_push_43 rfl (by decide) (fun c7 => ?_) (fun c7 => ?_)
            · replace K := K.1 c7
              refine mw_aload_n (pc' := 49) dX12_push_48 rfl rfl ?_
              refine mw_getI (pc' := 52) dX12_push_49 rfl flX12_154 rfl (skT_47 hS) ?_
              refine mw_istore (pc' := 54) dX12_push_52 rfl (by decide) ?_
              show mW _ _ _ _ _ [some (.inr (some 47)), some (.inl v1), some (.inl v2), some (.inl v3), some (.inl (mI h1 47 0)), none, none] _ _ _
              refine mw_aload_n (pc' := 55) dX12_push_54 rfl rfl ?_
              refine mw_getR (pc' := 58) dX12_push_55 rfl flX12_7 rfl (skT_47 hS) ?_
              rw [skR_47_1 hS]
              refine mw_iload (pc' := 60) dX12_push_58 rfl rfl ?_
              refine mw_aload_n (pc' := 61) dX12_push_60 rfl rfl ?_
              refine mw_getR (pc' := 64) dX12_push_61 rfl flX12_7 rfl (skT_47 hS) ?_
              rw [skR_47_1 hS]
              refine mw_iload_n (pc' := 65) dX12_push_64 rfl rfl ?_
              obtain ⟨o4, K⟩ := K
              refine mw_ialdL (pc' := 66) dX12_push_65 rfl (skT_48 hS) (skL_48 hS) o4 ?_
              obtain ⟨o5, K⟩ := K
              refine mw_iastK (pc' := 67) dX12_push_66 rfl (skT_48 hS) (skL_48 hS) o5 hS (fun h6 eh6 hS => ?_)
              replace K := K h6 eh6
              refine mw_iconst (pc' := 68) (v := 0) dX12_push_67 rfl (by decide) ?_
              refine mw_istore (pc' := 70) dX12_push_68 rfl (by decide) ?_
              show mW _ _ _ _ _ [some (.inr (some 47)), some (.inl v1), some (.inl v2), some (.inl v3), some (.inl (mI h1 47 0)), some (.inl 0), none] _ _ _
              exact K
            · replace K := K.2 c7
              refine mw_iconst (pc' := 47) (v := (-1)) dX12_push_46 rfl (by decide) ?_
              exact mw_iret dX12_push_47 rfl rfl K

set_option maxRecDepth 100000 in
set_option maxHeartbeats 4000000 in
theorem qX12_push_70 {G : mG} {d : Nat} {b : Nat × Nat} {h : mH} {Q : Option mV → mH → Prop} (v1 : Int32) (v2 : Int32) (v3 : Int32) (v4 : Int32) (v5 : Int32) (hS : mSk h)
    (K : vp_in v1 8 ∧ (((mI h 48 v1.toNatClampNeg) ≤ v5 → mW G kX12_push (d + 2) b 229 [some (.inr (some 47)), none, none, none, some (.inl v4), some (.inl 0), none] [] h Q) ∧ (¬ ((mI h 48 v1.toNatClampNeg) ≤ v5) → ((v5 = v2 → vp_in ((16 * v1) + v5) 128 ∧ (((1 : Int32) = 0 → vp_in ((16 * v4) + v5) 128 ∧ ∀ h4, h4 = mSI h 49 ((16 * v4) + v5).toNatClampNeg ((mI h 49 ((16 * v1) + v5).toNatClampNeg) + 0) → vp_in ((16 * v1) + v5) 128 ∧ (((1 : Int32) = 0 → vp_in ((16 * v4) + v5) 128 ∧ ∀ h7, h7 = mSI h4 50 ((16 * v4) + v5).toNatClampNeg ((mI h4 50 ((16 * v1) + v5).toNatClampNeg) + 0) → vp_in ((16 * v1) + v5) 128 ∧ vp_in ((16 * v4) + v5) 128 ∧ ∀ h10, h10 = mSI h7 51 ((16 * v4) + v5).toNatClampNeg (mI h7 51 ((16 * v1) + v5).toNatClampNeg) → mW G kX12_push (d + 2) b 70 [some (.inr (some 47)), some (.inl v1), some (.inl v2), some (.inl v3), some (.inl v4), some (.inl (v5 + 1)), none] [] h10 Q) ∧ (¬ (1 : Int32) = 0 → ∀ w11 : Int32, w11 = (if ¬ (m_rem v2 2) = 0 then 0 else v3) → vp_in ((16 * v4) + v5) 128 ∧ ∀ h13, h13 = mSI h4 50 ((16 * v4) + v5).toNatClampNeg ((mI h4 50 ((16 * v1) + v5).toNatClampNeg) + w11) → vp_in ((16 * v1) + v5) 128 ∧ vp_in ((16 * v4) + v5) 128 ∧ ∀ h16, h16 = mSI h13 51 ((16 * v4) + v5).toNatClampNeg (mI h13 51 ((16 * v1) + v5).toNatClampNeg) → mW G kX12_push (d + 2) b 70 [some (.inr (some 47)), some (.inl v1), some (.inl v2), some (.inl v3), some (.inl v4), some (.inl (v5 + 1)), none] [] h16 Q))) ∧ (¬ (1 : Int32) = 0 → ∀ w20 : Int32, w20 = (if ¬ (m_rem v2 2) = 1 then 0 else v3) → vp_in ((16 * v4) + v5) 128 ∧ ∀ h22, h22 = mSI h 49 ((16 * v4) + v5).toNatClampNeg ((mI h 49 ((16 * v1) + v5).toNatClampNeg) + w20) → vp_in ((16 * v1) + v5) 128 ∧ (((1 : Int32) = 0 → vp_in ((16 * v4) + v5) 128 ∧ ∀ h25, h25 = mSI h22 50 ((16 * v4) + v5).toNatClampNeg ((mI h22 50 ((16 * v1) + v5).toNatClampNeg) + 0) → vp_in ((16 * v1) + v5) 128 ∧ vp_in ((16 * v4) + v5) 128 ∧ ∀ h28, h28 = mSI h25 51 ((16 * v4) + v5).toNatClampNeg (mI h25 51 ((16 * v1) + v5).toNatClampNeg) → mW G kX12_push (d + 2) b 70 [some (.inr (some 47)), some (.inl v1), some (.inl v2), some (.inl v3), some (.inl v4), some (.inl (v5 + 1)), none] [] h28 Q) ∧ (¬ (1 : Int32) = 0 → ∀ w29 : Int32, w29 = (if ¬ (m_rem v2 2) = 0 then 0 else v3) → vp_in ((16 * v4) + v5) 128 ∧ ∀ h31, h31 = mSI h22 50 ((16 * v4) + v5).toNatClampNeg ((mI h22 50 ((16 * v1) + v5).toNatClampNeg) + w29) → vp_in ((16 * v1) + v5) 128 ∧ vp_in ((16 * v4) + v5) 128 ∧ ∀ h34, h34 = mSI h31 51 ((16 * v4) + v5).toNatClampNeg (mI h31 51 ((16 * v1) + v5).toNatClampNeg) → mW G kX12_push (d + 2) b 70 [some (.inr (some 47)), some (.inl v1), some (.inl v2), some (.inl v3), some (.inl v4), some (.inl (v5 + 1)), none] [] h34 Q))))) ∧ (¬ v5 = v2 → mC G kX12_next0 (d + 1) (0, 0) [.inr (some 47), .inl v1, .inl v2] h (fun r h41 => ∃ x42, r = some (.inl x42) ∧ mSk h41 ∧ ∀ w43 : Int32, w43 = (if ¬ ((16 * v1) + v5) = x42 then 0 else 1) → vp_in ((16 * v1) + v5) 128 ∧ ((w43 = 0 → vp_in ((16 * v4) + v5) 128 ∧ ∀ h46, h46 = mSI h41 49 ((16 * v4) + v5).toNatClampNeg ((mI h41 49 ((16 * v1) + v5).toNatClampNeg) + 0) → vp_in ((16 * v1) + v5) 128 ∧ ((w43 = 0 → vp_in ((16 * v4) + v5) 128 ∧ ∀ h49, h49 = mSI h46 50 ((16 * v4) + v5).toNatClampNeg ((mI h46 50 ((16 * v1) + v5).toNatClampNeg) + 0) → vp_in ((16 * v1) + v5) 128 ∧ vp_in ((16 * v4) + v5) 128 ∧ ∀ h52, h52 = mSI h49 51 ((16 * v4) + v5).toNatClampNeg (mI h49 51 ((16 * v1) + v5).toNatClampNeg) → mW G kX12_push (d + 2) b 70 [some (.inr (some 47)), some (.inl v1), some (.inl v2), some (.inl v3), some (.inl v4), some (.inl (v5 + 1)), none] [] h52 Q) ∧ (¬ w43 = 0 → ∀ w53 : Int32, w53 = (if ¬ (m_rem v2 2) = 0 then 0 else v3) → vp_in ((16 * v4) + v5) 128 ∧ ∀ h55, h55 = mSI h46 50 ((16 * v4) + v5).toNatClampNeg ((mI h46 50 ((16 * v1) + v5).toNatClampNeg) + w53) → vp_in ((16 * v1) + v5) 128 ∧ vp_in ((16 * v4) + v5) 128 ∧ ∀ h58, h58 = mSI h55 51 ((16 * v4) + v5).toNatClampNeg (mI h55 51 ((16 * v1) + v5).toNatClampNeg) → mW G kX12_push (d + 2) b 70 [some (.inr (some 47)), some (.inl v1), some (.inl v2), some (.inl v3), some (.inl v4), some (.inl (v5 + 1)), none] [] h58 Q))) ∧ (¬ w43 = 0 → ∀ w62 : Int32, w62 = (if ¬ (m_rem v2 2) = 1 then 0 else v3) → vp_in ((16 * v4) + v5) 128 ∧ ∀ h64, h64 = mSI h41 49 ((16 * v4) + v5).toNatClampNeg ((mI h41 49 ((16 * v1) + v5).toNatClampNeg) + w62) → vp_in ((16 * v1) + v5) 128 ∧ ((w43 = 0 → vp_in ((16 * v4) + v5) 128 ∧ ∀ h67, h67 = mSI h64 50 ((16 * v4) + v5).toNatClampNeg ((mI h64 50 ((16 * v1) + v5).toNatClampNeg) + 0) → vp_in ((16 * v1) + v5) 128 ∧ vp_in ((16 * v4) + v5) 128 ∧ ∀ h70, h70 = mSI h67 51 ((16 * v4) + v5).toNatClampNeg (mI h67 51 ((16 * v1) + v5).toNatClampNeg) → mW G kX12_push (d + 2) b 70 [some (.inr (some 47)), some (.inl v1), some (.inl v2), some (.inl v3), some (.inl v4), some (.inl (v5 + 1)), none] [] h70 Q) ∧ (¬ w43 = 0 → ∀ w71 : Int32, w71 = (if ¬ (m_rem v2 2) = 0 then 0 else v3) → vp_in ((16 * v4) + v5) 128 ∧ ∀ h73, h73 = mSI h64 50 ((16 * v4) + v5).toNatClampNeg ((mI h64 50 ((16 * v1) + v5).toNatClampNeg) + w71) → vp_in ((16 * v1) + v5) 128 ∧ vp_in ((16 * v4) + v5) 128 ∧ ∀ h76, h76 = mSI h73 51 ((16 * v4) + v5).toNatClampNeg (mI h73 51 ((16 * v1) + v5).toNatClampNeg) → mW G kX12_push (d + 2) b 70 [some (.inr (some 47)), some (.inl v1), some (.inl v2), some (.inl v3), some (.inl v4), some (.inl (v5 + 1)), none] [] h76 Q)))))))))) : mW G kX12_push (d + 2) b 70 [some (.inr (some 47)), some (.inl v1), some (.inl v2), some (.inl v3), some (.inl v4), some (.inl v5), none] [] h Q := by
  refine mw_iload (pc' := 72) dX12_push_70 rfl rfl ?_
  refine mw_aload_n (pc' := 73) dX12_push_72 rfl rfl ?_
  refine mw_getR (pc' := 76) dX12_push_73 rfl flX12_7 rfl (skT_47 hS) ?_
  rw [skR_47_1 hS]
  refine mw_iload_n (pc' := 77) dX12_push_76 rfl rfl ?_
  obtain ⟨o1, K⟩ := K
  refine mw_ialdL (pc' := 78) dX12_push_77 rfl (skT_48 hS) (skL_48 hS) o1 ?_
  refine mw_icmp_ge (pc' := 81) (tgt := 226) dX12_push_78 rfl (by decide) (fun c86 => ?_) (fun c86 => ?_)
  · replace K := K.1 c86
    refine mw_iconst (pc' := 227) (v := 0) dX12_push_226 rfl (by decide) ?_
    refine mw_istore (pc' := 229) dX12_push_227 rfl (by decide) ?_
    show mW _ _ _ _ _ [some (.inr (some 47)), some (.inl v1), some (.inl v2), some (.inl v3), some (.inl v4), some (.inl 0), none] _ _ _
    refine mw_weak (ls' := [some (.inr (some 47)), none, none, none, some (.inl v4), some (.inl 0), none]) ?_ ?_
    · intro i v hv; match i, hv with
      | 0, hv => exact hv
      | 1, hv => cases hv
      | 2, hv => cases hv
      | 3, hv => cases hv
      | 4, hv => exact hv
      | 5, hv => exact hv
      | 6, hv => cases hv
      | n + 7, hv => cases hv
    exact K
  · replace K := K.2 c86
    refine mw_iload (pc' := 83) dX12_push_81 rfl rfl ?_
    refine mw_iload_n (pc' := 84) dX12_push_83 rfl rfl ?_
    refine mw_icmp_eq (pc' := 87) (tgt := 103) dX12_push_84 rfl (by decide) (fun c85 => ?_) (fun c85 => ?_)
    · replace K := K.1 c85
      refine mw_iconst (pc' := 104) (v := 1) dX12_push_103 rfl (by decide) ?_
      refine mw_goto (tgt := 108) dX12_push_104 (by decide) ?_
      refine mw_istore (pc' := 110) dX12_push_108 rfl (by decide) ?_
      show mW _ _ _ _ _ [some (.inr (some 47)), some (.inl v1), some (.inl v2), some (.inl v3), some (.inl v4), some (.inl v5), some (.inl 1)] _ _ _
      refine mw_aload_n (pc' := 111) dX12_push_110 rfl rfl ?_
      refine mw_getR (pc' := 114) dX12_push_111 rfl flX12_13 rfl (skT_47 hS) ?_
      rw [skR_47_2 hS]
      refine mw_bipush (pc' := 116) (v := 16) dX12_push_114 rfl (by decide) ?_
      refine mw_iload (pc' := 118) dX12_push_116 rfl rfl ?_
      refine mw_imul (pc' := 119) dX12_push_118 rfl ?_
      refine mw_iload (pc' := 121) dX12_push_119 rfl rfl ?_
      refine mw_iadd (pc' := 122) dX12_push_121 rfl ?_
      refine mw_aload_n (pc' := 123) dX12_push_122 rfl rfl ?_
      refine mw_getR (pc' := 126) dX12_push_123 rfl flX12_13 rfl (skT_47 hS) ?_
      rw [skR_47_2 hS]
      refine mw_bipush (pc' := 128) (v := 16) dX12_push_126 rfl (by decide) ?_
      refine mw_iload_n (pc' := 129) dX12_push_128 rfl rfl ?_
      refine mw_imul (pc' := 130) dX12_push_129 rfl ?_
      refine mw_iload (pc' := 132) dX12_push_130 rfl rfl ?_
      refine mw_iadd (pc' := 133) dX12_push_132 rfl ?_
      obtain ⟨o2, K⟩ := K
      refine mw_ialdL (pc' := 134) dX12_push_133 rfl (skT_49 hS) (skL_49 hS) o2 ?_
      refine mw_iload (pc' := 136) dX12_push_134 rfl rfl ?_
      refine mw_if_eq (pc' := 139) (tgt := 150) dX12_push_136 rfl (by decide) (fun c40 => ?_) (fun c40 => ?_)
      · replace K := K.1 c40
        refine mw_iconst (pc' := 151) (v := 0) dX12_push_150 rfl (by decide) ?_
        refine mw_iadd (pc' := 152) dX12_push_151 rfl ?_
        obtain ⟨o3, K⟩ := K
        refine mw_iastK (pc' := 153) dX12_push_152 rfl (skT_49 hS) (skL_49 hS) o3 hS (fun h4 eh4 hS => ?_)
        replace K := K h4 eh4
        refine mw_aload_n (pc' := 154) dX12_push_153 rfl rfl ?_
        refine mw_getR (pc' := 157) dX12_push_154 rfl flX12_16 rfl (skT_47 hS) ?_
        rw [skR_47_3 hS]
        refine mw_bipush (pc' := 159) (v := 16) dX12_push_157 rfl (by decide) ?_
        refine mw_iload (pc' := 161) dX12_push_159 rfl rfl ?_
        refine mw_imul (pc' := 162) dX12_push_161 rfl ?_
        refine mw_iload (pc' := 164) dX12_push_162 rfl rfl ?_
        refine mw_iadd (pc' := 165) dX12_push_164 rfl ?_
        refine mw_aload_n (pc' := 166) dX12_push_165 rfl rfl ?_
        refine mw_getR (pc' := 169) dX12_push_166 rfl flX12_16 rfl (skT_47 hS) ?_
        rw [skR_47_3 hS]
        refine mw_bipush (pc' := 171) (v := 16) dX12_push_169 rfl (by decide) ?_
        refine mw_iload_n (pc' := 172) dX12_push_171 rfl rfl ?_
        refine mw_imul (pc' := 173) dX12_push_172 rfl ?_
        refine mw_iload (pc' := 175) dX12_push_173 rfl rfl ?_
        refine mw_iadd (pc' := 176) dX12_push_175 rfl ?_
        obtain ⟨o5, K⟩ := K
        refine mw_ialdL (pc' := 177) dX12_push_176 rfl (skT_50 hS) (skL_50 hS) o5 ?_
        refine mw_iload (pc' := 179) dX12_push_177 rfl rfl ?_
        refine mw_if_eq (pc' := 182) (tgt := 192) dX12_push_179 rfl (by decide) (fun c19 => ?_) (fun c19 => ?_)
        · replace K := K.1 c19
          refine mw_iconst (pc' := 193) (v := 0) dX12_push_192 rfl (by decide) ?_
          refine mw_iadd (pc' := 194) dX12_push_193 rfl ?_
          obtain ⟨o6, K⟩ := K
          refine mw_iastK (pc' := 195) dX12_push_194 rfl (skT_50 hS) (skL_50 hS) o6 hS (fun h7 eh7 hS => ?_)
          replace K := K h7 eh7
          refine mw_aload_n (pc' := 196) dX12_push_195 rfl rfl ?_
          refine mw_getR (pc' := 199) dX12_push_196 rfl flX12_19 rfl (skT_47 hS) ?_
          rw [skR_47_4 hS]
          refine mw_bipush (pc' := 201) (v := 16) dX12_push_199 rfl (by decide) ?_
          refine mw_iload (pc' := 203) dX12_push_201 rfl rfl ?_
          refine mw_imul (pc' := 204) dX12_push_203 rfl ?_
          refine mw_iload (pc' := 206) dX12_push_204 rfl rfl ?_
          refine mw_iadd (pc' := 207) dX12_push_206 rfl ?_
          refine mw_aload_n (pc' := 208) dX12_push_207 rfl rfl ?_
          refine mw_getR (pc' := 211) dX12_push_208 rfl flX12_19 rfl (skT_47 hS) ?_
          rw [skR_47_4 hS]
          refine mw_bipush (pc' := 213) (v := 16) dX12_push_211 rfl (by decide) ?_
          refine mw_iload_n (pc' := 214) dX12_push_213 rfl rfl ?_
          refine mw_imul (pc' := 215) dX12_push_214 rfl ?_
          refine mw_iload (pc' := 217) dX12_push_215 rfl rfl ?_
          refine mw_iadd (pc' := 218) dX12_push_217 rfl ?_
          obtain ⟨o8, K⟩ := K
          refine mw_ialdL (pc' := 219) dX12_push_218 rfl (skT_51 hS) (skL_51 hS) o8 ?_
          obtain ⟨o9, K⟩ := K
          refine mw_iastK (pc' := 220) dX12_push_219 rfl (skT_51 hS) (skL_51 hS) o9 hS (fun h10 eh10 hS => ?_)
          replace K := K h10 eh10
          refine mw_iinc (pc' := 223) (v := v5 + 1) dX12_push_220 rfl (by decide) rfl rfl ?_
          show mW _ _ _ _ _ [some (.inr (some 47)), some (.inl v1), some (.inl v2), some (.inl v3), some (.inl v4), some (.inl (v5 + 1)), some (.inl 1)] _ _ _
          refine mw_goto (tgt := 70) dX12_push_223 (by decide) ?_
          refine mw_weak (ls' := [some (.inr (some 47)), some (.inl v1), some (.inl v2), some (.inl v3), some (.inl v4), some (.inl (v5 + 1)), none]) ?_ ?_
          · intro i v hv; match i, hv with
            | 0, hv => exact hv
            | 1, hv => exact hv
            | 2, hv => exact hv
            | 3, hv => exact hv
            | 4, hv => exact hv
            | 5, hv => exact hv
            | 6, hv => cases hv
            | n + 7, hv => cases hv
          exact K
        · replace K := K.2 c19
          refine mw_iload_n (pc' := 183) dX12_push_182 rfl rfl ?_
          refine mw_iconst (pc' := 184) (v := 2) dX12_push_183 rfl (by decide) ?_
          refine mw_iremM (pc' := 185) dX12_push_184 rfl (by decide) ?_
          have J17 : ∀ w11 : Int32, w11 = (if ¬ (m_rem v2 2) = 0 then 0 else v3) → mW G kX12_push (d + 2) b 193 [some (.inr (some 47)), some (.inl v1), some (.inl v2), some (.inl v3), some (.inl v4), some (.inl v5), some (.inl 1)] ([.inl w11, .inl (mI h4 50 ((16 * v1) + v5).toNatClampNeg), .inl ((16 * v4) + v5), .inr (some 50)]) h4 Q := by
            intro w11 ew11
            replace K := K w11 ew11
            refine mw_iadd (pc' := 194) dX12_push_193 rfl ?_
            obtain ⟨o12, K⟩ := K
            refine mw_iastK (pc' := 195) dX12_push_194 rfl (skT_50 hS) (skL_50 hS) o12 hS (fun h13 eh13 hS => ?_)
            replace K := K h13 eh13
            refine mw_aload_n (pc' := 196) dX12_push_195 rfl rfl ?_
            refine mw_getR (pc' := 199) dX12_push_196 rfl flX12_19 rfl (skT_47 hS) ?_
            rw [skR_47_4 hS]
            refine mw_bipush (pc' := 201) (v := 16) dX12_push_199 rfl (by decide) ?_
            refine mw_iload (pc' := 203) dX12_push_201 rfl rfl ?_
            refine mw_imul (pc' := 204) dX12_push_203 rfl ?_
            refine mw_iload (pc' := 206) dX12_push_204 rfl rfl ?_
            refine mw_iadd (pc' := 207) dX12_push_206 rfl ?_
            refine mw_aload_n (pc' := 208) dX12_push_207 rfl rfl ?_
            refine mw_getR (pc' := 211) dX12_push_208 rfl flX12_19 rfl (skT_47 hS) ?_
            rw [skR_47_4 hS]
            refine mw_bipush (pc' := 213) (v := 16) dX12_push_211 rfl (by decide) ?_
            refine mw_iload_n (pc' := 214) dX12_push_213 rfl rfl ?_
            refine mw_imul (pc' := 215) dX12_push_214 rfl ?_
            refine mw_iload (pc' := 217) dX12_push_215 rfl rfl ?_
            refine mw_iadd (pc' := 218) dX12_push_217 rfl ?_
            obtain ⟨o14, K⟩ := K
            refine mw_ialdL (pc' := 219) dX12_push_218 rfl (skT_51 hS) (skL_51 hS) o14 ?_
            obtain ⟨o15, K⟩ := K
            refine mw_iastK (pc' := 220) dX12_push_219 rfl (skT_51 hS) (skL_51 hS) o15 hS (fun h16 eh16 hS => ?_)
            replace K := K h16 eh16
            refine mw_iinc (pc' := 223) (v := v5 + 1) dX12_push_220 rfl (by decide) rfl rfl ?_
            show mW _ _ _ _ _ [some (.inr (some 47)), some (.inl v1), some (.inl v2), some (.inl v3), some (.inl v4), some (.inl (v5 + 1)), some (.inl 1)] _ _ _
            refine mw_goto (tgt := 70) dX12_push_223 (by decide) ?_
            refine mw_weak (ls' := [some (.inr (some 47)), some (.inl v1), some (.inl v2), some (.inl v3), some (.inl v4), some (.inl (v5 + 1)), none]) ?_ ?_
            · intro i v hv; match i, hv with
              | 0, hv => exact hv
              | 1, hv => exact hv
              | 2, hv => exact hv
              | 3, hv => exact hv
              | 4, hv => exact hv
              | 5, hv => exact hv
              | 6, hv => cases hv
              | n + 7, hv => cases hv
            exact K
          refine mw_if_ne (pc' := 188) (tgt := 192) dX12_push_185 rfl (by decide) (fun c18 => ?_) (fun c18 => ?_)
          · refine mw_iconst (pc' := 193) (v := 0) dX12_push_192 rfl (by decide) ?_
            exact J17 _ (by rw [if_pos c18])
          · refine mw_iload_n (pc' := 189) dX12_push_188 rfl rfl ?_
            refine mw_goto (tgt := 193) dX12_push_189 (by decide) ?_
            exact J17 _ (by rw [if_neg (fun z => z c18)])
      · replace K := K.2 c40
        refine mw_iload_n (pc' := 140) dX12_push_139 rfl rfl ?_
        refine mw_iconst (pc' := 141) (v := 2) dX12_push_140 rfl (by decide) ?_
        refine mw_iremM (pc' := 142) dX12_push_141 rfl (by decide) ?_
        refine mw_iconst (pc' := 143) (v := 1) dX12_push_142 rfl (by decide) ?_
        have J38 : ∀ w20 : Int32, w20 = (if ¬ (m_rem v2 2) = 1 then 0 else v3) → mW G kX12_push (d + 2) b 151 [some (.inr (some 47)), some (.inl v1), some (.inl v2), some (.inl v3), some (.inl v4), some (.inl v5), some (.inl 1)] ([.inl w20, .inl (mI h 49 ((16 * v1) + v5).toNatClampNeg), .inl ((16 * v4) + v5), .inr (some 49)]) h Q := by
          intro w20 ew20
          replace K := K w20 ew20
          refine mw_iadd (pc' := 152) dX12_push_151 rfl ?_
          obtain ⟨o21, K⟩ := K
          refine mw_iastK (pc' := 153) dX12_push_152 rfl (skT_49 hS) (skL_49 hS) o21 hS (fun h22 eh22 hS => ?_)
          replace K := K h22 eh22
          refine mw_aload_n (pc' := 154) dX12_push_153 rfl rfl ?_
          refine mw_getR (pc' := 157) dX12_push_154 rfl flX12_16 rfl (skT_47 hS) ?_
          rw [skR_47_3 hS]
          refine mw_bipush (pc' := 159) (v := 16) dX12_push_157 rfl (by decide) ?_
          refine mw_iload (pc' := 161) dX12_push_159 rfl rfl ?_
          refine mw_imul (pc' := 162) dX12_push_161 rfl ?_
          refine mw_iload (pc' := 164) dX12_push_162 rfl rfl ?_
          refine mw_iadd (pc' := 165) dX12_push_164 rfl ?_
          refine mw_aload_n (pc' := 166) dX12_push_165 rfl rfl ?_
          refine mw_getR (pc' := 169) dX12_push_166 rfl flX12_16 rfl (skT_47 hS) ?_
          rw [skR_47_3 hS]
          refine mw_bipush (pc' := 171) (v := 16) dX12_push_169 rfl (by decide) ?_
          refine mw_iload_n (pc' := 172) dX12_push_171 rfl rfl ?_
          refine mw_imul (pc' := 173) dX12_push_172 rfl ?_
          refine mw_iload (pc' := 175) dX12_push_173 rfl rfl ?_
          refine mw_iadd (pc' := 176) dX12_push_175 rfl ?_
          obtain ⟨o23, K⟩ := K
          refine mw_ialdL (pc' := 177) dX12_push_176 rfl (skT_50 hS) (skL_50 hS) o23 ?_
          refine mw_iload (pc' := 179) dX12_push_177 rfl rfl ?_
          refine mw_if_eq (pc' := 182) (tgt := 192) dX12_push_179 rfl (by decide) (fun c37 => ?_) (fun c37 => ?_)
          · replace K := K.1 c37
            refine mw_iconst (pc' := 193) (v := 0) dX12_push_192 rfl (by decide) ?_
            refine mw_iadd (pc' := 194) dX12_push_193 rfl ?_
            obtain ⟨o24, K⟩ := K
            refine mw_iastK (pc' := 195) dX12_push_194 rfl (skT_50 hS) (skL_50 hS) o24 hS (fun h25 eh25 hS => ?_)
            replace K := K h25 eh25
            refine mw_aload_n (pc' := 196) dX12_push_195 rfl rfl ?_
            refine mw_getR (pc' := 199) dX12_push_196 rfl flX12_19 rfl (skT_47 hS) ?_
            rw [skR_47_4 hS]
            refine mw_bipush (pc' := 201) (v := 16) dX12_push_199 rfl (by decide) ?_
            refine mw_iload (pc' := 203) dX12_push_201 rfl rfl ?_
            refine mw_imul (pc' := 204) dX12_push_203 rfl ?_
            refine mw_iload (pc' := 206) dX12_push_204 rfl rfl ?_
            refine mw_iadd (pc' := 207) dX12_push_206 rfl ?_
            refine mw_aload_n (pc' := 208) dX12_push_207 rfl rfl ?_
            refine mw_getR (pc' := 211) dX12_push_208 rfl flX12_19 rfl (skT_47 hS) ?_
            rw [skR_47_4 hS]
            refine mw_bipush (pc' := 213) (v := 16) dX12_push_211 rfl (by decide) ?_
            refine mw_iload_n (pc' := 214) dX12_push_213 rfl rfl ?_
            refine mw_imul (pc' := 215) dX12_push_214 rfl ?_
            refine mw_iload (pc' := 217) dX12_push_215 rfl rfl ?_
            refine mw_iadd (pc' := 218) dX12_push_217 rfl ?_
            obtain ⟨o26, K⟩ := K
            refine mw_ialdL (pc' := 219) dX12_push_218 rfl (skT_51 hS) (skL_51 hS) o26 ?_
            obtain ⟨o27, K⟩ := K
            refine mw_iastK (pc' := 220) dX12_push_219 rfl (skT_51 hS) (skL_51 hS) o27 hS (fun h28 eh28 hS => ?_)
            replace K := K h28 eh28
            refine mw_iinc (pc' := 223) (v := v5 + 1) dX12_push_220 rfl (by decide) rfl rfl ?_
            show mW _ _ _ _ _ [some (.inr (some 47)), some (.inl v1), some (.inl v2), some (.inl v3), some (.inl v4), some (.inl (v5 + 1)), some (.inl 1)] _ _ _
            refine mw_goto (tgt := 70) dX12_push_223 (by decide) ?_
            refine mw_weak (ls' := [some (.inr (some 47)), some (.inl v1), some (.inl v2), some (.inl v3), some (.inl v4), some (.inl (v5 + 1)), none]) ?_ ?_
            · intro i v hv; match i, hv with
              | 0, hv => exact hv
              | 1, hv => exact hv
              | 2, hv => exact hv
              | 3, hv => exact hv
              | 4, hv => exact hv
              | 5, hv => exact hv
              | 6, hv => cases hv
              | n + 7, hv => cases hv
            exact K
          · replace K := K.2 c37
            refine mw_iload_n (pc' := 183) dX12_push_182 rfl rfl ?_
            refine mw_iconst (pc' := 184) (v := 2) dX12_push_183 rfl (by decide) ?_
            refine mw_iremM (pc' := 185) dX12_push_184 rfl (by decide) ?_
            have J35 : ∀ w29 : Int32, w29 = (if ¬ (m_rem v2 2) = 0 then 0 else v3) → mW G kX12_push (d + 2) b 193 [some (.inr (some 47)), some (.inl v1), some (.inl v2), some (.inl v3), some (.inl v4), some (.inl v5), some (.inl 1)] ([.inl w29, .inl (mI h22 50 ((16 * v1) + v5).toNatClampNeg), .inl ((16 * v4) + v5), .inr (some 50)]) h22 Q := by
              intro w29 ew29
              replace K := K w29 ew29
              refine mw_iadd (pc' := 194) dX12_push_193 rfl ?_
              obtain ⟨o30, K⟩ := K
              refine mw_iastK (pc' := 195) dX12_push_194 rfl (skT_50 hS) (skL_50 hS) o30 hS (fun h31 eh31 hS => ?_)
              replace K := K h31 eh31
              refine mw_aload_n (pc' := 196) dX12_push_195 rfl rfl ?_
              refine mw_getR (pc' := 199) dX12_push_196 rfl flX12_19 rfl (skT_47 hS) ?_
              rw [skR_47_4 hS]
              refine mw_bipush (pc' := 201) (v := 16) dX12_push_199 rfl (by decide) ?_
              refine mw_iload (pc' := 203) dX12_push_201 rfl rfl ?_
              refine mw_imul (pc' := 204) dX12_push_203 rfl ?_
              refine mw_iload (pc' := 206) dX12_push_204 rfl rfl ?_
              refine mw_iadd (pc' := 207) dX12_push_206 rfl ?_
              refine mw_aload_n (pc' := 208) dX12_push_207 rfl rfl ?_
              refine mw_getR (pc' := 211) dX12_push_208 rfl flX12_19 rfl (skT_47 hS) ?_
              rw [skR_47_4 hS]
              refine mw_bipush (pc' := 213) (v := 16) dX12_push_211 rfl (by decide) ?_
              refine mw_iload_n (pc' := 214) dX12_push_213 rfl rfl ?_
              refine mw_imul (pc' := 215) dX12_push_214 rfl ?_
              refine mw_iload (pc' := 217) dX12_push_215 rfl rfl ?_
              refine mw_iadd (pc' := 218) dX12_push_217 rfl ?_
              obtain ⟨o32, K⟩ := K
              refine mw_ialdL (pc' := 219) dX12_push_218 rfl (skT_51 hS) (skL_51 hS) o32 ?_
              obtain ⟨o33, K⟩ := K
              refine mw_iastK (pc' := 220) dX12_push_219 rfl (skT_51 hS) (skL_51 hS) o33 hS (fun h34 eh34 hS => ?_)
              replace K := K h34 eh34
              refine mw_iinc (pc' := 223) (v := v5 + 1) dX12_push_220 rfl (by decide) rfl rfl ?_
              show mW _ _ _ _ _ [some (.inr (some 47)), some (.inl v1), some (.inl v2), some (.inl v3), some (.inl v4), some (.inl (v5 + 1)), some (.inl 1)] _ _ _
              refine mw_goto (tgt := 70) dX12_push_223 (by decide) ?_
              refine mw_weak (ls' := [some (.inr (some 47)), some (.inl v1), some (.inl v2), some (.inl v3), some (.inl v4), some (.inl (v5 + 1)), none]) ?_ ?_
              · intro i v hv; match i, hv with
                | 0, hv => exact hv
                | 1, hv => exact hv
                | 2, hv => exact hv
                | 3, hv => exact hv
                | 4, hv => exact hv
                | 5, hv => exact hv
                | 6, hv => cases hv
                | n + 7, hv => cases hv
              exact K
            refine mw_if_ne (pc' := 188) (tgt := 192) dX12_push_185 rfl (by decide) (fun c36 => ?_) (fun c36 => ?_)
            · refine mw_iconst (pc' := 193) (v := 0) dX12_push_192 rfl (by decide) ?_
              exact J35 _ (by rw [if_pos c36])
            · refine mw_iload_n (pc' := 189) dX12_push_188 rfl rfl ?_
              refine mw_goto (tgt := 193) dX12_push_189 (by decide) ?_
              exact J35 _ (by rw [if_neg (fun z => z c36)])
        refine mw_icmp_ne (pc' := 146) (tgt := 150) dX12_push_143 rfl (by decide) (fun c39 => ?_) (fun c39 => ?_)
        · refine mw_iconst (pc' := 151) (v := 0) dX12_push_150 rfl (by decide) ?_
          exact J38 _ (by rw [if_pos c39])
        · refine mw_iload_n (pc' := 147) dX12_push_146 rfl rfl ?_
          refine mw_goto (tgt := 151) dX12_push_147 (by decide) ?_
          exact J38 _ (by rw [if_neg (fun z => z c39)])
    · replace K := K.2 c85
      refine mw_bipush (pc' := 89) (v := 16) dX12_push_87 rfl (by decide) ?_
      refine mw_iload_n (pc' := 90) dX12_push_89 rfl rfl ?_
      refine mw_imul (pc' := 91) dX12_push_90 rfl ?_
      refine mw_iload (pc' := 93) dX12_push_91 rfl rfl ?_
      refine mw_iadd (pc' := 94) dX12_push_93 rfl ?_
      refine mw_aload_n (pc' := 95) dX12_push_94 rfl rfl ?_
      refine mw_iload_n (pc' := 96) dX12_push_95 rfl rfl ?_
      refine mw_iload_n (pc' := 97) dX12_push_96 rfl rfl ?_
      refine mw_callV (pc' := 100) (b' := (0, 0)) (b1 := b) (av := [.inl v1, .inl v2]) (rest := [.inl ((16 * v1) + v5)]) dX12_push_97 rfl lkX12_157 rfl rfl (Nat.le_of_ble_eq_true rfl) ⟨Nat.le_of_eq (Nat.zero_add _), Nat.le_of_eq (Nat.zero_add _)⟩ (skT_47 hS) ?_
      refine mC_mono (fun r h41 hr => ?_) K
      obtain ⟨x42, rfl, hS, K⟩ := hr
      show mW _ _ _ _ _ _ [.inl x42, .inl ((16 * v1) + v5)] _ _
      have J83 : ∀ w43 : Int32, w43 = (if ¬ ((16 * v1) + v5) = x42 then 0 else 1) → mW G kX12_push (d + 2) b 108 [some (.inr (some 47)), some (.inl v1), some (.inl v2), some (.inl v3), some (.inl v4), some (.inl v5), none] ([.inl w43]) h41 Q := by
        intro w43 ew43
        replace K := K w43 ew43
        refine mw_istore (pc' := 110) dX12_push_108 rfl (by decide) ?_
        show mW _ _ _ _ _ [some (.inr (some 47)), some (.inl v1), some (.inl v2), some (.inl v3), some (.inl v4), some (.inl v5), some (.inl w43)] _ _ _
        refine mw_aload_n (pc' := 111) dX12_push_110 rfl rfl ?_
        refine mw_getR (pc' := 114) dX12_push_111 rfl flX12_13 rfl (skT_47 hS) ?_
        rw [skR_47_2 hS]
        refine mw_bipush (pc' := 116) (v := 16) dX12_push_114 rfl (by decide) ?_
        refine mw_iload (pc' := 118) dX12_push_116 rfl rfl ?_
        refine mw_imul (pc' := 119) dX12_push_118 rfl ?_
        refine mw_iload (pc' := 121) dX12_push_119 rfl rfl ?_
        refine mw_iadd (pc' := 122) dX12_push_121 rfl ?_
        refine mw_aload_n (pc' := 123) dX12_push_122 rfl rfl ?_
        refine mw_getR (pc' := 126) dX12_push_123 rfl flX12_13 rfl (skT_47 hS) ?_
        rw [skR_47_2 hS]
        refine mw_bipush (pc' := 128) (v := 16) dX12_push_126 rfl (by decide) ?_
        refine mw_iload_n (pc' := 129) dX12_push_128 rfl rfl ?_
        refine mw_imul (pc' := 130) dX12_push_129 rfl ?_
        refine mw_iload (pc' := 132) dX12_push_130 rfl rfl ?_
        refine mw_iadd (pc' := 133) dX12_push_132 rfl ?_
        obtain ⟨o44, K⟩ := K
        refine mw_ialdL (pc' := 134) dX12_push_133 rfl (skT_49 hS) (skL_49 hS) o44 ?_
        refine mw_iload (pc' := 136) dX12_push_134 rfl rfl ?_
        refine mw_if_eq (pc' := 139) (tgt := 150) dX12_push_136 rfl (by decide) (fun c82 => ?_) (fun c82 => ?_)
        · replace K := K.1 c82
          refine mw_iconst (pc' := 151) (v := 0) dX12_push_150 rfl (by decide) ?_
          refine mw_iadd (pc' := 152) dX12_push_151 rfl ?_
          obtain ⟨o45, K⟩ := K
          refine mw_iastK (pc' := 153) dX12_push_152 rfl (skT_49 hS) (skL_49 hS) o45 hS (fun h46 eh46 hS => ?_)
          replace K := K h46 eh46
          refine mw_aload_n (pc' := 154) dX12_push_153 rfl rfl ?_
          refine mw_getR (pc' := 157) dX12_push_154 rfl flX12_16 rfl (skT_47 hS) ?_
          rw [skR_47_3 hS]
          refine mw_bipush (pc' := 159) (v := 16) dX12_push_157 rfl (by decide) ?_
          refine mw_iload (pc' := 161) dX12_push_159 rfl rfl ?_
          refine mw_imul (pc' := 162) dX12_push_161 rfl ?_
          refine mw_iload (pc' := 164) dX12_push_162 rfl rfl ?_
          refine mw_iadd (pc' := 165) dX12_push_164 rfl ?_
          refine mw_aload_n (pc' := 166) dX12_push_165 rfl rfl ?_
          refine mw_getR (pc' := 169) dX12_push_166 rfl flX12_16 rfl (skT_47 hS) ?_
          rw [skR_47_3 hS]
          refine mw_bipush (pc' := 171) (v := 16) dX12_push_169 rfl (by decide) ?_
          refine mw_iload_n (pc' := 172) dX12_push_171 rfl rfl ?_
          refine mw_imul (pc' := 173) dX12_push_172 rfl ?_
          refine mw_iload (pc' := 175) dX12_push_173 rfl rfl ?_
          refine mw_iadd (pc' := 176) dX12_push_175 rfl ?_
          obtain ⟨o47, K⟩ := K
          refine mw_ialdL (pc' := 177) dX12_push_176 rfl (skT_50 hS) (skL_50 hS) o47 ?_
          refine mw_iload (pc' := 179) dX12_push_177 rfl rfl ?_
          refine mw_if_eq (pc' := 182) (tgt := 192) dX12_push_179 rfl (by decide) (fun c61 => ?_) (fun c61 => ?_)
          · replace K := K.1 c61
            refine mw_iconst (pc' := 193) (v := 0) dX12_push_192 rfl (by decide) ?_
            refine mw_iadd (pc' := 194) dX12_push_193 rfl ?_
            obtain ⟨o48, K⟩ := K
            refine mw_iastK (pc' := 195) dX12_push_194 rfl (skT_50 hS) (skL_50 hS) o48 hS (fun h49 eh49 hS => ?_)
            replace K := K h49 eh49
            refine mw_aload_n (pc' := 196) dX12_push_195 rfl rfl ?_
            refine mw_getR (pc' := 199) dX12_push_196 rfl flX12_19 rfl (skT_47 hS) ?_
            rw [skR_47_4 hS]
            refine mw_bipush (pc' := 201) (v := 16) dX12_push_199 rfl (by decide) ?_
            refine mw_iload (pc' := 203) dX12_push_201 rfl rfl ?_
            refine mw_imul (pc' := 204) dX12_push_203 rfl ?_
            refine mw_iload (pc' := 206) dX12_push_204 rfl rfl ?_
            refine mw_iadd (pc' := 207) dX12_push_206 rfl ?_
            refine mw_aload_n (pc' := 208) dX12_push_207 rfl rfl ?_
            refine mw_getR (pc' := 211) dX12_push_208 rfl flX12_19 rfl (skT_47 hS) ?_
            rw [skR_47_4 hS]
            refine mw_bipush (pc' := 213) (v := 16) dX12_push_211 rfl (by decide) ?_
            refine mw_iload_n (pc' := 214) dX12_push_213 rfl rfl ?_
            refine mw_imul (pc' := 215) dX12_push_214 rfl ?_
            refine mw_iload (pc' := 217) dX12_push_215 rfl rfl ?_
            refine mw_iadd (pc' := 218) dX12_push_217 rfl ?_
            obtain ⟨o50, K⟩ := K
            refine mw_ialdL (pc' := 219) dX12_push_218 rfl (skT_51 hS) (skL_51 hS) o50 ?_
            obtain ⟨o51, K⟩ := K
            refine mw_iastK (pc' := 220) dX12_push_219 rfl (skT_51 hS) (skL_51 hS) o51 hS (fun h52 eh52 hS => ?_)
            replace K := K h52 eh52
            refine mw_iinc (pc' := 223) (v := v5 + 1) dX12_push_220 rfl (by decide) rfl rfl ?_
            show mW _ _ _ _ _ [some (.inr (some 47)), some (.inl v1), some (.inl v2), some (.inl v3), some (.inl v4), some (.inl (v5 + 1)), some (.inl w43)] _ _ _
            refine mw_goto (tgt := 70) dX12_push_223 (by decide) ?_
            refine mw_weak (ls' := [some (.inr (some 47)), some (.inl v1), some (.inl v2), some (.inl v3), some (.inl v4), some (.inl (v5 + 1)), none]) ?_ ?_
            · intro i v hv; match i, hv with
              | 0, hv => exact hv
              | 1, hv => exact hv
              | 2, hv => exact hv
              | 3, hv => exact hv
              | 4, hv => exact hv
              | 5, hv => exact hv
              | 6, hv => cases hv
              | n + 7, hv => cases hv
            exact K
          · replace K := K.2 c61
            refine mw_iload_n (pc' := 183) dX12_push_182 rfl rfl ?_
            refine mw_iconst (pc' := 184) (v := 2) dX12_push_183 rfl (by decide) ?_
            refine mw_iremM (pc' := 185) dX12_push_184 rfl (by decide) ?_
            have J59 : ∀ w53 : Int32, w53 = (if ¬ (m_rem v2 2) = 0 then 0 else v3) → mW G kX12_push (d + 2) b 193 [some (.inr (some 47)), some (.inl v1), some (.inl v2), some (.inl v3), some (.inl v4), some (.inl v5), some (.inl w43)] ([.inl w53, .inl (mI h46 50 ((16 * v1) + v5).toNatClampNeg), .inl ((16 * v4) + v5), .inr (some 50)]) h46 Q := by
              intro w53 ew53
              replace K := K w53 ew53
              refine mw_iadd (pc' := 194) dX12_push_193 rfl ?_
              obtain ⟨o54, K⟩ := K
              refine mw_iastK (pc' := 195) dX12_push_194 rfl (skT_50 hS) (skL_50 hS) o54 hS (fun h55 eh55 hS => ?_)
              replace K := K h55 eh55
              refine mw_aload_n (pc' := 196) dX12_push_195 rfl rfl ?_
              refine mw_getR (pc' := 199) dX12_push_196 rfl flX12_19 rfl (skT_47 hS) ?_
              rw [skR_47_4 hS]
              refine mw_bipush (pc' := 201) (v := 16) dX12_push_199 rfl (by decide) ?_
              refine mw_iload (pc' := 203) dX12_push_201 rfl rfl ?_
              refine mw_imul (pc' := 204) dX12_push_203 rfl ?_
              refine mw_iload (pc' := 206) dX12_push_204 rfl rfl ?_
              refine mw_iadd (pc' := 207) dX12_push_206 rfl ?_
              refine mw_aload_n (pc' := 208) dX12_push_207 rfl rfl ?_
              refine mw_getR (pc' := 211) dX12_push_208 rfl flX12_19 rfl (skT_47 hS) ?_
              rw [skR_47_4 hS]
              refine mw_bipush (pc' := 213) (v := 16) dX12_push_211 rfl (by decide) ?_
              refine mw_iload_n (pc' := 214) dX12_push_213 rfl rfl ?_
              refine mw_imul (pc' := 215) dX12_push_214 rfl ?_
              refine mw_iload (pc' := 217) dX12_push_215 rfl rfl ?_
              refine mw_iadd (pc' := 218) dX12_push_217 rfl ?_
              obtain ⟨o56, K⟩ := K
              refine mw_ialdL (pc' := 219) dX12_push_218 rfl (skT_51 hS) (skL_51 hS) o56 ?_
              obtain ⟨o57, K⟩ := K
              refine mw_iastK (pc' := 220) dX12_push_219 rfl (skT_51 hS) (skL_51 hS) o57 hS (fun h58 eh58 hS => ?_)
              replace K := K h58 eh58
              refine mw_iinc (pc' := 223) (v := v5 + 1) dX12_push_220 rfl (by decide) rfl rfl ?_
              show mW _ _ _ _ _ [some (.inr (some 47)), some (.inl v1), some (.inl v2), some (.inl v3), some (.inl v4), some (.inl (v5 + 1)), some (.inl w43)] _ _ _
              refine mw_goto (tgt := 70) dX12_push_223 (by decide) ?_
              refine mw_weak (ls' := [some (.inr (some 47)), some (.inl v1), some (.inl v2), some (.inl v3), some (.inl v4), some (.inl (v5 + 1)), none]) ?_ ?_
              · intro i v hv; match i, hv with
                | 0, hv => exact hv
                | 1, hv => exact hv
                | 2, hv => exact hv
                | 3, hv => exact hv
                | 4, hv => exact hv
                | 5, hv => exact hv
                | 6, hv => cases hv
                | n + 7, hv => cases hv
              exact K
            refine mw_if_ne (pc' := 188) (tgt := 192) dX12_push_185 rfl (by decide) (fun c60 => ?_) (fun c60 => ?_)
            · refine mw_iconst (pc' := 193) (v := 0) dX12_push_192 rfl (by decide) ?_
              exact J59 _ (by rw [if_pos c60])
            · refine mw_iload_n (pc' := 189) dX12_push_188 rfl rfl ?_
              refine mw_goto (tgt := 193) dX12_push_189 (by decide) ?_
              exact J59 _ (by rw [if_neg (fun z => z c60)])
        · replace K := K.2 c82
          refine mw_iload_n (pc' := 140) dX12_push_139 rfl rfl ?_
          refine mw_iconst (pc' := 141) (v := 2) dX12_push_140 rfl (by decide) ?_
          refine mw_iremM (pc' := 142) dX12_push_141 rfl (by decide) ?_
          refine mw_iconst (pc' := 143) (v := 1) dX12_push_142 rfl (by decide) ?_
          have J80 : ∀ w62 : Int32, w62 = (if ¬ (m_rem v2 2) = 1 then 0 else v3) → mW G kX12_push (d + 2) b 151 [some (.inr (some 47)), some (.inl v1), some (.inl v2), some (.inl v3), some (.inl v4), some (.inl v5), some (.inl w43)] ([.inl w62, .inl (mI h41 49 ((16 * v1) + v5).toNatClampNeg), .inl ((16 * v4) + v5), .inr (some 49)]) h41 Q := by
            intro w62 ew62
            replace K := K w62 ew62
            refine mw_iadd (pc' := 152) dX12_push_151 rfl ?_
            obtain ⟨o63, K⟩ := K
            refine mw_iastK (pc' := 153) dX12_push_152 rfl (skT_49 hS) (skL_49 hS) o63 hS (fun h64 eh64 hS => ?_)
            replace K := K h64 eh64
            refine mw_aload_n (pc' := 154) dX12_push_153 rfl rfl ?_
            refine mw_getR (pc' := 157) dX12_push_154 rfl flX12_16 rfl (skT_47 hS) ?_
            rw [skR_47_3 hS]
            refine mw_bipush (pc' := 159) (v := 16) dX12_push_157 rfl (by decide) ?_
            refine mw_iload (pc' := 161) dX12_push_159 rfl rfl ?_
            refine mw_imul (pc' := 162) dX12_push_161 rfl ?_
            refine mw_iload (pc' := 164) dX12_push_162 rfl rfl ?_
            refine mw_iadd (pc' := 165) dX12_push_164 rfl ?_
            refine mw_aload_n (pc' := 166) dX12_push_165 rfl rfl ?_
            refine mw_getR (pc' := 169) dX12_push_166 rfl flX12_16 rfl (skT_47 hS) ?_
            rw [skR_47_3 hS]
            refine mw_bipush (pc' := 171) (v := 16) dX12_push_169 rfl (by decide) ?_
            refine mw_iload_n (pc' := 172) dX12_push_171 rfl rfl ?_
            refine mw_imul (pc' := 173) dX12_push_172 rfl ?_
            refine mw_iload (pc' := 175) dX12_push_173 rfl rfl ?_
            refine mw_iadd (pc' := 176) dX12_push_175 rfl ?_
            obtain ⟨o65, K⟩ := K
            refine mw_ialdL (pc' := 177) dX12_push_176 rfl (skT_50 hS) (skL_50 hS) o65 ?_
            refine mw_iload (pc' := 179) dX12_push_177 rfl rfl ?_
            refine mw_if_eq (pc' := 182) (tgt := 192) dX12_push_179 rfl (by decide) (fun c79 => ?_) (fun c79 => ?_)
            · replace K := K.1 c79
              refine mw_iconst (pc' := 193) (v := 0) dX12_push_192 rfl (by decide) ?_
              refine mw_iadd (pc' := 194) dX12_push_193 rfl ?_
              obtain ⟨o66, K⟩ := K
              refine mw_iastK (pc' := 195) dX12_push_194 rfl (skT_50 hS) (skL_50 hS) o66 hS (fun h67 eh67 hS => ?_)
              replace K := K h67 eh67
              refine mw_aload_n (pc' := 196) dX12_push_195 rfl rfl ?_
              refine mw_getR (pc' := 199) dX12_push_196 rfl flX12_19 rfl (skT_47 hS) ?_
              rw [skR_47_4 hS]
              refine mw_bipush (pc' := 201) (v := 16) dX12_push_199 rfl (by decide) ?_
              refine mw_iload (pc' := 203) dX12_push_201 rfl rfl ?_
              refine mw_imul (pc' := 204) dX12_push_203 rfl ?_
              refine mw_iload (pc' := 206) dX12_push_204 rfl rfl ?_
              refine mw_iadd (pc' := 207) dX12_push_206 rfl ?_
              refine mw_aload_n (pc' := 208) dX12_push_207 rfl rfl ?_
              refine mw_getR (pc' := 211) dX12_push_208 rfl flX12_19 rfl (skT_47 hS) ?_
              rw [skR_47_4 hS]
              refine mw_bipush (pc' := 213) (v := 16) dX12_push_211 rfl (by decide) ?_
              refine mw_iload_n (pc' := 214) dX12_push_213 rfl rfl ?_
              refine mw_imul (pc' := 215) dX12_push_214 rfl ?_
              refine mw_iload (pc' := 217) dX12_push_215 rfl rfl ?_
              refine mw_iadd (pc' := 218) dX12_push_217 rfl ?_
              obtain ⟨o68, K⟩ := K
              refine mw_ialdL (pc' := 219) dX12_push_218 rfl (skT_51 hS) (skL_51 hS) o68 ?_
              obtain ⟨o69, K⟩ := K
              refine mw_iastK (pc' := 220) dX12_push_219 rfl (skT_51 hS) (skL_51 hS) o69 hS (fun h70 eh70 hS => ?_)
              replace K := K h70 eh70
              refine mw_iinc (pc' := 223) (v := v5 + 1) dX12_push_220 rfl (by decide) rfl rfl ?_
              show mW _ _ _ _ _ [some (.inr (some 47)), some (.inl v1), some (.inl v2), some (.inl v3), some (.inl v4), some (.inl (v5 + 1)), some (.inl w43)] _ _ _
              refine mw_goto (tgt := 70) dX12_push_223 (by decide) ?_
              refine mw_weak (ls' := [some (.inr (some 47)), some (.inl v1), some (.inl v2), some (.inl v3), some (.inl v4), some (.inl (v5 + 1)), none]) ?_ ?_
              · intro i v hv; match i, hv with
                | 0, hv => exact hv
                | 1, hv => exact hv
                | 2, hv => exact hv
                | 3, hv => exact hv
                | 4, hv => exact hv
                | 5, hv => exact hv
                | 6, hv => cases hv
                | n + 7, hv => cases hv
              exact K
            · replace K := K.2 c79
              refine mw_iload_n (pc' := 183) dX12_push_182 rfl rfl ?_
              refine mw_iconst (pc' := 184) (v := 2) dX12_push_183 rfl (by decide) ?_
              refine mw_iremM (pc' := 185) dX12_push_184 rfl (by decide) ?_
              have J77 : ∀ w71 : Int32, w71 = (if ¬ (m_rem v2 2) = 0 then 0 else v3) → mW G kX12_push (d + 2) b 193 [some (.inr (some 47)), some (.inl v1), some (.inl v2), some (.inl v3), some (.inl v4), some (.inl v5), some (.inl w43)] ([.inl w71, .inl (mI h64 50 ((16 * v1) + v5).toNatClampNeg), .inl ((16 * v4) + v5), .inr (some 50)]) h64 Q := by
                intro w71 ew71
                replace K := K w71 ew71
                refine mw_iadd (pc' := 194) dX12_push_193 rfl ?_
                obtain ⟨o72, K⟩ := K
                refine mw_iastK (pc' := 195) dX12_push_194 rfl (skT_50 hS) (skL_50 hS) o72 hS (fun h73 eh73 hS => ?_)
                replace K := K h73 eh73
                refine mw_aload_n (pc' := 196) dX12_push_195 rfl rfl ?_
                refine mw_getR (pc' := 199) dX12_push_196 rfl flX12_19 rfl (skT_47 hS) ?_
                rw [skR_47_4 hS]
                refine mw_bipush (pc' := 201) (v := 16) dX12_push_199 rfl (by decide) ?_
                refine mw_iload (pc' := 203) dX12_push_201 rfl rfl ?_
                refine mw_imul (pc' := 204) dX12_push_203 rfl ?_
                refine mw_iload (pc' := 206) dX12_push_204 rfl rfl ?_
                refine mw_iadd (pc' := 207) dX12_push_206 rfl ?_
                refine mw_aload_n (pc' := 208) dX12_push_207 rfl rfl ?_
                refine mw_getR (pc' := 211) dX12_push_208 rfl flX12_19 rfl (skT_47 hS) ?_
                rw [skR_47_4 hS]
                refine mw_bipush (pc' := 213) (v := 16) dX12_push_211 rfl (by decide) ?_
                refine mw_iload_n (pc' := 214) dX12_push_213 rfl rfl ?_
                refine mw_imul (pc' := 215) dX12_push_214 rfl ?_
                refine mw_iload (pc' := 217) dX12_push_215 rfl rfl ?_
                refine mw_iadd (pc' := 218) dX12_push_217 rfl ?_
                obtain ⟨o74, K⟩ := K
                refine mw_ialdL (pc' := 219) dX12_push_218 rfl (skT_51 hS) (skL_51 hS) o74 ?_
                obtain ⟨o75, K⟩ := K
                refine mw_iastK (pc' := 220) dX12_push_219 rfl (skT_51 hS) (skL_51 hS) o75 hS (fun h76 eh76 hS => ?_)
                replace K := K h76 eh76
                refine mw_iinc (pc' := 223) (v := v5 + 1) dX12_push_220 rfl (by decide) rfl rfl ?_
                show mW _ _ _ _ _ [some (.inr (some 47)), some (.inl v1), some (.inl v2), some (.inl v3), some (.inl v4), some (.inl (v5 + 1)), some (.inl w43)] _ _ _
                refine mw_goto (tgt := 70) dX12_push_223 (by decide) ?_
                refine mw_weak (ls' := [some (.inr (some 47)), some (.inl v1), some (.inl v2), some (.inl v3), some (.inl v4), some (.inl (v5 + 1)), none]) ?_ ?_
                · intro i v hv; match i, hv with
                  | 0, hv => exact hv
                  | 1, hv => exact hv
                  | 2, hv => exact hv
                  | 3, hv => exact hv
                  | 4, hv => exact hv
                  | 5, hv => exact hv
                  | 6, hv => cases hv
                  | n + 7, hv => cases hv
                exact K
              refine mw_if_ne (pc' := 188) (tgt := 192) dX12_push_185 rfl (by decide) (fun c78 => ?_) (fun c78 => ?_)
              · refine mw_iconst (pc' := 193) (v := 0) dX12_push_192 rfl (by decide) ?_
                exact J77 _ (by rw [if_pos c78])
              · refine mw_iload_n (pc' := 189) dX12_push_188 rfl rfl ?_
                refine mw_goto (tgt := 193) dX12_push_189 (by decide) ?_
                exact J77 _ (by rw [if_neg (fun z => z c78)])
          refine mw_icmp_ne (pc' := 146) (tgt := 150) dX12_push_143 rfl (by decide) (fun c81 => ?_) (fun c81 => ?_)
          · refine mw_iconst (pc' := 151) (v := 0) dX12_push_150 rfl (by decide) ?_
            exact J80 _ (by rw [if_pos c81])
          · refine mw_iload_n (pc' := 147) dX12_push_146 rfl rfl ?_
            refine mw_goto (tgt := 151) dX12_push_147 (by decide) ?_
            exact J80 _ (by rw [if_neg (fun z => z c81)])
      refine mw_icmp_ne (pc' := 103) (tgt := 107) dX12_push_100 rfl (by decide) (fun c84 => ?_) (fun c84 => ?_)
      · refine mw_iconst (pc' := 108) (v := 0) dX12_push_107 rfl (by decide) ?_
        exact J83 _ (by rw [if_pos c84])
      · refine mw_iconst (pc' := 104) (v := 1) dX12_push_103 rfl (by decide) ?_
        refine mw_goto (tgt := 108) dX12_push_104 (by decide) ?_
        exact J83 _ (by rw [if_neg (fun z => z c84)])

set_option maxRecDepth 100000 in
set_option maxHeartbeats 4000000 in
theorem qX12_push_229 {G : mG} {d : Nat} {b : Nat × Nat} {h : mH} {Q : Option mV → mH → Prop} (v4 : Int32) (v5 : Int32) (hS : mSk h)
    (K : vp_in v4 8 ∧ (((mI h 48 v4.toNatClampNeg) ≤ v5 → mC G kX12_laysLand (d + 1) (0, 0) [.inr (some 47), .inl v4] h (fun r h2 => r = none ∧ mSk h2 ∧ ∀ h3, h3 = mSI h2 47 0 ((mI h2 47 0) + 1) → Q (some (.inl v4)) h3)) ∧ (¬ ((mI h 48 v4.toNatClampNeg) ≤ v5) → vp_in ((16 * v4) + v5) 128 ∧ (((f_X12_isCorner (mI h 49 ((16 * v4) + v5).toNatClampNeg)) = 0 → Q (some (.inl (-2))) h) ∧ (¬ (f_X12_isCorner (mI h 49 ((16 * v4) + v5).toNatClampNeg)) = 0 → vp_in ((16 * v4) + v5) 128 ∧ (((f_X12_isCorner (mI h 50 ((16 * v4) + v5).toNatClampNeg)) = 0 → Q (some (.inl (-2))) h) ∧ (¬ (f_X12_isCorner (mI h 50 ((16 * v4) + v5).toNatClampNeg)) = 0 → mC G kX12_isSide (d + 1) (0, 0) [.inr (some 47), .inl v4, .inl v5] h (fun r h6 => ∃ x7, r = some (.inl x7) ∧ mSk h6 ∧ ((¬ x7 = 0 → mW G kX12_push (d + 2) b 229 [some (.inr (some 47)), none, none, none, some (.inl v4), some (.inl (v5 + 1)), none] [] h6 Q) ∧ (x7 = 0 → Q (some (.inl (-2))) h6)))))))))) : mW G kX12_push (d + 2) b 229 [some (.inr (some 47)), none, none, none, some (.inl v4), some (.inl v5), none] [] h Q := by
  refine mw_iload (pc' := 231) dX12_push_229 rfl rfl ?_
  refine mw_aload_n (pc' := 232) dX12_push_231 rfl rfl ?_
  refine mw_getR (pc' := 235) dX12_push_232 rfl flX12_7 rfl (skT_47 hS) ?_
  rw [skR_47_1 hS]
  refine mw_iload (pc' := 237) dX12_push_235 rfl rfl ?_
  obtain ⟨o1, K⟩ := K
  refine mw_ialdL (pc' := 238) dX12_push_237 rfl (skT_48 hS) (skL_48 hS) o1 ?_
  refine mw_icmp_ge (pc' := 241) (tgt := 299) dX12_push_238 rfl (by decide) (fun c11 => ?_) (fun c11 => ?_)
  · replace K := K.1 c11
    refine mw_aload_n (pc' := 300) dX12_push_299 rfl rfl ?_
    refine mw_iload (pc' := 302) dX12_push_300 rfl rfl ?_
    refine mw_callV (pc' := 305) (b' := (0, 0)) (b1 := b) (av := [.inl v4]) (rest := []) dX12_push_302 rfl lkX12_183 rfl rfl (Nat.le_of_ble_eq_true rfl) ⟨Nat.le_of_eq (Nat.zero_add _), Nat.le_of_eq (Nat.zero_add _)⟩ (skT_47 hS) ?_
    refine mC_mono (fun r h2 hr => ?_) K
    obtain ⟨rfl, hS, K⟩ := hr
    show mW _ _ _ _ _ _ [] _ _
    refine mw_aload_n (pc' := 306) dX12_push_305 rfl rfl ?_
    refine mw_aload_n (pc' := 307) dX12_push_306 rfl rfl ?_
    refine mw_getI (pc' := 310) dX12_push_307 rfl flX12_154 rfl (skT_47 hS) ?_
    refine mw_iconst (pc' := 311) (v := 1) dX12_push_310 rfl (by decide) ?_
    refine mw_iadd (pc' := 312) dX12_push_311 rfl ?_
    refine mw_putIK (pc' := 315) dX12_push_312 rfl flX12_154 rfl (Or.inl rfl) ⟨rfl, rfl⟩ (skT_47 hS) hS (fun h3 eh3 hS => ?_)
    replace K := K h3 eh3
    refine mw_iload (pc' := 317) dX12_push_315 rfl rfl ?_
    exact mw_iret dX12_push_317 rfl rfl K
  · replace K := K.2 c11
    refine mw_aload_n (pc' := 242) dX12_push_241 rfl rfl ?_
    refine mw_getR (pc' := 245) dX12_push_242 rfl flX12_13 rfl (skT_47 hS) ?_
    rw [skR_47_2 hS]
    refine mw_bipush (pc' := 247) (v := 16) dX12_push_245 rfl (by decide) ?_
    refine mw_iload (pc' := 249) dX12_push_247 rfl rfl ?_
    refine mw_imul (pc' := 250) dX12_push_249 rfl ?_
    refine mw_iload (pc' := 252) dX12_push_250 rfl rfl ?_
    refine mw_iadd (pc' := 253) dX12_push_252 rfl ?_
    obtain ⟨o4, K⟩ := K
    refine mw_ialdL (pc' := 254) dX12_push_253 rfl (skT_49 hS) (skL_49 hS) o4 ?_
    refine mw_callS (pc' := 257) (b' := (0, 0)) (b1 := b) (av := [.inl (mI h 49 ((16 * v4) + v5).toNatClampNeg)]) (rest := []) dX12_push_254 rfl lkX12_165 rfl rfl (Nat.le_of_ble_eq_true rfl) ⟨Nat.le_of_eq (Nat.zero_add _), Nat.le_of_eq (Nat.zero_add _)⟩ ?_
    refine pX12_isCorner ?_
    refine mw_if_eq (pc' := 260) (tgt := 290) dX12_push_257 rfl (by decide) (fun c10 => ?_) (fun c10 => ?_)
    · replace K := K.1 c10
      refine mw_bipush (pc' := 292) (v := (-2)) dX12_push_290 rfl (by decide) ?_
      exact mw_iret dX12_push_292 rfl rfl K
    · replace K := K.2 c10
      refine mw_aload_n (pc' := 261) dX12_push_260 rfl rfl ?_
      refine mw_getR (pc' := 264) dX12_push_261 rfl flX12_16 rfl (skT_47 hS) ?_
      rw [skR_47_3 hS]
      refine mw_bipush (pc' := 266) (v := 16) dX12_push_264 rfl (by decide) ?_
      refine mw_iload (pc' := 268) dX12_push_266 rfl rfl ?_
      refine mw_imul (pc' := 269) dX12_push_268 rfl ?_
      refine mw_iload (pc' := 271) dX12_push_269 rfl rfl ?_
      refine mw_iadd (pc' := 272) dX12_push_271 rfl ?_
      obtain ⟨o5, K⟩ := K
      refine mw_ialdL (pc' := 273) dX12_push_272 rfl (skT_50 hS) (skL_50 hS) o5 ?_
      refine mw_callS (pc' := 276) (b' := (0, 0)) (b1 := b) (av := [.inl (mI h 50 ((16 * v4) + v5).toNatClampNeg)]) (rest := []) dX12_push_273 rfl lkX12_165 rfl rfl (Nat.le_of_ble_eq_true rfl) ⟨Nat.le_of_eq (Nat.zero_add _), Nat.le_of_eq (Nat.zero_add _)⟩ ?_
      refine pX12_isCorner ?_
      refine mw_if_eq (pc' := 279) (tgt := 290) dX12_push_276 rfl (by decide) (fun c9 => ?_) (fun c9 => ?_)
      · replace K := K.1 c9
        refine mw_bipush (pc' := 292) (v := (-2)) dX12_push_290 rfl (by decide) ?_
        exact mw_iret dX12_push_292 rfl rfl K
      · replace K := K.2 c9
        refine mw_aload_n (pc' := 280) dX12_push_279 rfl rfl ?_
        refine mw_iload (pc' := 282) dX12_push_280 rfl rfl ?_
        refine mw_iload (pc' := 284) dX12_push_282 rfl rfl ?_
        refine mw_callV (pc' := 287) (b' := (0, 0)) (b1 := b) (av := [.inl v4, .inl v5]) (rest := []) dX12_push_284 rfl lkX12_169 rfl rfl (Nat.le_of_ble_eq_true rfl) ⟨Nat.le_of_eq (Nat.zero_add _), Nat.le_of_eq (Nat.zero_add _)⟩ (skT_47 hS) ?_
        refine mC_mono (fun r h6 hr => ?_) K
        obtain ⟨x7, rfl, hS, K⟩ := hr
        show mW _ _ _ _ _ _ [.inl x7] _ _
        refine mw_if_ne (pc' := 290) (tgt := 293) dX12_push_287 rfl (by decide) (fun c8 => ?_) (fun c8 => ?_)
        · replace K := K.1 c8
          refine mw_iinc (pc' := 296) (v := v5 + 1) dX12_push_293 rfl (by decide) rfl rfl ?_
          show mW _ _ _ _ _ [some (.inr (some 47)), none, none, none, some (.inl v4), some (.inl (v5 + 1)), none] _ _ _
          refine mw_goto (tgt := 229) dX12_push_296 (by decide) ?_
          exact K
        · replace K := K.2 c8
          refine mw_bipush (pc' := 292) (v := (-2)) dX12_push_290 rfl (by decide) ?_
          exact mw_iret dX12_push_292 rfl rfl K

set_option maxRecDepth 100000 in
set_option maxHeartbeats 4000000 in
theorem qX12_isLandAt {G : mG} {d : Nat} {b : Nat × Nat} {h : mH} {Q : Option mV → mH → Prop} (v1 : Int32) (v2 : Int32) (v3 : Int32) (hS : mSk h)
    (K : vp_in (((1024 * v1) + (32 * v3)) + v2) 8192 ∧ m_bool (mI h 52 (((1024 * v1) + (32 * v3)) + v2).toNatClampNeg) ∧ Q (some (.inl (mI h 52 (((1024 * v1) + (32 * v3)) + v2).toNatClampNeg))) h) : mC G kX12_isLandAt d b [.inr (some 47), .inl v1, .inl v2, .inl v3] h Q := by
  refine mC_in rfl (Nat.le_of_ble_eq_true rfl) ?_
  show mW _ _ _ _ _ [some (.inr (some 47)), some (.inl v1), some (.inl v2), some (.inl v3)] _ _ _
  refine mw_aload_n (pc' := 1) dX12_isLandAt_0 rfl rfl ?_
  refine mw_getR (pc' := 4) dX12_isLandAt_1 rfl flX12_22 rfl (skT_47 hS) ?_
  rw [skR_47_5 hS]
  refine mw_sipush (pc' := 7) (v := 1024) dX12_isLandAt_4 rfl (by decide) ?_
  refine mw_iload_n (pc' := 8) dX12_isLandAt_7 rfl rfl ?_
  refine mw_imul (pc' := 9) dX12_isLandAt_8 rfl ?_
  refine mw_bipush (pc' := 11) (v := 32) dX12_isLandAt_9 rfl (by decide) ?_
  refine mw_iload_n (pc' := 12) dX12_isLandAt_11 rfl rfl ?_
  refine mw_imul (pc' := 13) dX12_isLandAt_12 rfl ?_
  refine mw_iadd (pc' := 14) dX12_isLandAt_13 rfl ?_
  refine mw_iload_n (pc' := 15) dX12_isLandAt_14 rfl rfl ?_
  refine mw_iadd (pc' := 16) dX12_isLandAt_15 rfl ?_
  obtain ⟨o1, K⟩ := K
  refine mw_baldL (pc' := 17) dX12_isLandAt_16 rfl (skT_52 hS) (skL_52 hS) o1 ?_
  obtain ⟨o2, K⟩ := K
  exact mw_iret dX12_isLandAt_17 rfl (m_boolN o2) K

set_option maxRecDepth 100000 in
set_option maxHeartbeats 4000000 in
theorem qX12_land {G : mG} {d : Nat} {b : Nat × Nat} {h : mH} {Q : Option mV → mH → Prop} (v1 : Int32) (v2 : Int32) (v3 : Int32) (hS : mSk h)
    (K : mC G kX12_isCoast d (0, 0) [.inr (some 47), .inl v1] h (fun r h1 => ∃ x2, r = some (.inl x2) ∧ mSk h1 ∧ ((x2 = 0 → Q (some (.inl (-1))) h1) ∧ (¬ x2 = 0 → ((¬ (f_X12_isCell v2 v3) = 0 → mC G kX12_isLandAt d (0, 0) [.inr (some 47), .inl v1, .inl v2, .inl v3] h1 (fun r h3 => ∃ x4, r = some (.inl x4) ∧ mSk h3 ∧ ∀ w5 : Int32, w5 = (if x4 = 0 then 0 else 1) → Q (some (.inl w5)) h3)) ∧ ((f_X12_isCell v2 v3) = 0 → Q (some (.inl (-1))) h1)))))) : mC G kX12_land (d + 1) b [.inr (some 47), .inl v1, .inl v2, .inl v3] h Q := by
  refine mC_in rfl (Nat.le_of_ble_eq_true rfl) ?_
  show mW _ _ _ _ _ [some (.inr (some 47)), some (.inl v1), some (.inl v2), some (.inl v3)] _ _ _
  refine mw_aload_n (pc' := 1) dX12_land_0 rfl rfl ?_
  refine mw_iload_n (pc' := 2) dX12_land_1 rfl rfl ?_
  refine mw_callV (pc' := 5) (b' := (0, 0)) (b1 := b) (av := [.inl v1]) (rest := []) dX12_land_2 rfl lkX12_187 rfl rfl (Nat.le_of_ble_eq_true rfl) ⟨Nat.le_of_eq (Nat.zero_add _), Nat.le_of_eq (Nat.zero_add _)⟩ (skT_47 hS) ?_
  refine mC_mono (fun r h1 hr => ?_) K
  obtain ⟨x2, rfl, hS, K⟩ := hr
  show mW _ _ _ _ _ _ [.inl x2] _ _
  refine mw_if_eq (pc' := 8) (tgt := 16) dX12_land_5 rfl (by decide) (fun c9 => ?_) (fun c9 => ?_)
  · replace K := K.1 c9
    refine mw_iconst (pc' := 17) (v := (-1)) dX12_land_16 rfl (by decide) ?_
    refine mw_goto (tgt := 35) dX12_land_17 (by decide) ?_
    exact mw_iret dX12_land_35 rfl rfl K
  · replace K := K.2 c9
    refine mw_iload_n (pc' := 9) dX12_land_8 rfl rfl ?_
    refine mw_iload_n (pc' := 10) dX12_land_9 rfl rfl ?_
    refine mw_callS (pc' := 13) (b' := (0, 0)) (b1 := b) (av := [.inl v2, .inl v3]) (rest := []) dX12_land_10 rfl lkX12_190 rfl rfl (Nat.le_of_ble_eq_true rfl) ⟨Nat.le_of_eq (Nat.zero_add _), Nat.le_of_eq (Nat.zero_add _)⟩ ?_
    refine pX12_isCell ?_
    refine mw_if_ne (pc' := 16) (tgt := 20) dX12_land_13 rfl (by decide) (fun c8 => ?_) (fun c8 => ?_)
    · replace K := K.1 c8
      refine mw_aload_n (pc' := 21) dX12_land_20 rfl rfl ?_
      refine mw_iload_n (pc' := 22) dX12_land_21 rfl rfl ?_
      refine mw_iload_n (pc' := 23) dX12_land_22 rfl rfl ?_
      refine mw_iload_n (pc' := 24) dX12_land_23 rfl rfl ?_
      refine mw_callV (pc' := 27) (b' := (0, 0)) (b1 := b) (av := [.inl v1, .inl v2, .inl v3]) (rest := []) dX12_land_24 rfl lkX12_193 rfl rfl (Nat.le_of_ble_eq_true rfl) ⟨Nat.le_of_eq (Nat.zero_add _), Nat.le_of_eq (Nat.zero_add _)⟩ (skT_47 hS) ?_
      refine mC_mono (fun r h3 hr => ?_) K
      obtain ⟨x4, rfl, hS, K⟩ := hr
      show mW _ _ _ _ _ _ [.inl x4] _ _
      have J6 : ∀ w5 : Int32, w5 = (if x4 = 0 then 0 else 1) → mW G kX12_land (d + 1) b 35 [some (.inr (some 47)), some (.inl v1), some (.inl v2), some (.inl v3)] ([.inl w5]) h3 Q := by
        intro w5 ew5
        replace K := K w5 ew5
        exact mw_iret dX12_land_35 rfl rfl K
      refine mw_if_eq (pc' := 30) (tgt := 34) dX12_land_27 rfl (by decide) (fun c7 => ?_) (fun c7 => ?_)
      · refine mw_iconst (pc' := 35) (v := 0) dX12_land_34 rfl (by decide) ?_
        exact J6 _ (by rw [if_pos c7])
      · refine mw_iconst (pc' := 31) (v := 1) dX12_land_30 rfl (by decide) ?_
        refine mw_goto (tgt := 35) dX12_land_31 (by decide) ?_
        exact J6 _ (by rw [if_neg c7])
    · replace K := K.2 c8
      refine mw_iconst (pc' := 17) (v := (-1)) dX12_land_16 rfl (by decide) ?_
      refine mw_goto (tgt := 35) dX12_land_17 (by decide) ?_
      exact mw_iret dX12_land_35 rfl rfl K

set_option maxRecDepth 100000 in
set_option maxHeartbeats 4000000 in
theorem qX12_stepsTo {G : mG} {d : Nat} {b : Nat × Nat} {h : mH} {Q : Option mV → mH → Prop} (v1 : Int32) (v2 : Int32) (v3 : Int32) (v4 : Int32) (hS : mSk h)
    (K : mW G kX12_stepsTo (d + 1) b 3 [some (.inr (some 47)), some (.inl v1), some (.inl v2), some (.inl v3), some (.inl v4), some (.inl 1)] [] h Q) : mC G kX12_stepsTo (d + 1) b [.inr (some 47), .inl v1, .inl v2, .inl v3, .inl v4] h Q := by
  refine mC_in rfl (Nat.le_of_ble_eq_true rfl) ?_
  show mW _ _ _ _ _ [some (.inr (some 47)), some (.inl v1), some (.inl v2), some (.inl v3), some (.inl v4), none] _ _ _
  refine mw_iconst (pc' := 1) (v := 1) dX12_stepsTo_0 rfl (by decide) ?_
  refine mw_istore (pc' := 3) dX12_stepsTo_1 rfl (by decide) ?_
  show mW _ _ _ _ _ [some (.inr (some 47)), some (.inl v1), some (.inl v2), some (.inl v3), some (.inl v4), some (.inl 1)] _ _ _
  exact K

set_option maxRecDepth 100000 in
set_option maxHeartbeats 4000000 in
theorem qX12_stepsTo_3 {G : mG} {d : Nat} {b : Nat × Nat} {h : mH} {Q : Option mV → mH → Prop} (v1 : Int32) (v2 : Int32) (v3 : Int32) (v4 : Int32) (v5 : Int32) (hS : mSk h)
    (K : (((f_X12_isCell (v2 + (v5 * (f_X12_stepX v4))) (v3 + (v5 * (f_X12_stepY v4)))) = 0 → Q (some (.inl 0)) h) ∧ (¬ (f_X12_isCell (v2 + (v5 * (f_X12_stepX v4))) (v3 + (v5 * (f_X12_stepY v4)))) = 0 → mC G kX12_isLandAt d (0, 0) [.inr (some 47), .inl v1, .inl (v2 + (v5 * (f_X12_stepX v4))), .inl (v3 + (v5 * (f_X12_stepY v4)))] h (fun r h1 => ∃ x2, r = some (.inl x2) ∧ mSk h1 ∧ ((x2 = 0 → mW G kX12_stepsTo (d + 1) b 3 [some (.inr (some 47)), some (.inl v1), some (.inl v2), some (.inl v3), some (.inl v4), some (.inl (v5 + 1))] [] h1 Q) ∧ (¬ x2 = 0 → Q (some (.inl v5)) h1)))))) : mW G kX12_stepsTo (d + 1) b 3 [some (.inr (some 47)), some (.inl v1), some (.inl v2), some (.inl v3), some (.inl v4), some (.inl v5)] [] h Q := by
  refine mw_iload_n (pc' := 4) dX12_stepsTo_3 rfl rfl ?_
  refine mw_iload (pc' := 6) dX12_stepsTo_4 rfl rfl ?_
  refine mw_iload (pc' := 8) dX12_stepsTo_6 rfl rfl ?_
  refine mw_callS (pc' := 11) (b' := (0, 0)) (b1 := b) (av := [.inl v4]) (rest := [.inl v5, .inl v2]) dX12_stepsTo_8 rfl lkX12_196 rfl rfl (Nat.le_of_ble_eq_true rfl) ⟨Nat.le_of_eq (Nat.zero_add _), Nat.le_of_eq (Nat.zero_add _)⟩ ?_
  refine pX12_stepX ?_
  refine mw_imul (pc' := 12) dX12_stepsTo_11 rfl ?_
  refine mw_iadd (pc' := 13) dX12_stepsTo_12 rfl ?_
  refine mw_iload_n (pc' := 14) dX12_stepsTo_13 rfl rfl ?_
  refine mw_iload (pc' := 16) dX12_stepsTo_14 rfl rfl ?_
  refine mw_iload (pc' := 18) dX12_stepsTo_16 rfl rfl ?_
  refine mw_callS (pc' := 21) (b' := (0, 0)) (b1 := b) (av := [.inl v4]) (rest := [.inl v5, .inl v3, .inl (v2 + (v5 * (f_X12_stepX v4)))]) dX12_stepsTo_18 rfl lkX12_199 rfl rfl (Nat.le_of_ble_eq_true rfl) ⟨Nat.le_of_eq (Nat.zero_add _), Nat.le_of_eq (Nat.zero_add _)⟩ ?_
  refine pX12_stepY ?_
  refine mw_imul (pc' := 22) dX12_stepsTo_21 rfl ?_
  refine mw_iadd (pc' := 23) dX12_stepsTo_22 rfl ?_
  refine mw_callS (pc' := 26) (b' := (0, 0)) (b1 := b) (av := [.inl (v2 + (v5 * (f_X12_stepX v4))), .inl (v3 + (v5 * (f_X12_stepY v4)))]) (rest := []) dX12_stepsTo_23 rfl lkX12_190 rfl rfl (Nat.le_of_ble_eq_true rfl) ⟨Nat.le_of_eq (Nat.zero_add _), Nat.le_of_eq (Nat.zero_add _)⟩ ?_
  refine pX12_isCell ?_
  refine mw_if_eq (pc' := 29) (tgt := 69) dX12_stepsTo_26 rfl (by decide) (fun c4 => ?_) (fun c4 => ?_)
  · replace K := K.1 c4
    refine mw_iconst (pc' := 70) (v := 0) dX12_stepsTo_69 rfl (by decide) ?_
    exact mw_iret dX12_stepsTo_70 rfl rfl K
  · replace K := K.2 c4
    refine mw_aload_n (pc' := 30) dX12_stepsTo_29 rfl rfl ?_
    refine mw_iload_n (pc' := 31) dX12_stepsTo_30 rfl rfl ?_
    refine mw_iload_n (pc' := 32) dX12_stepsTo_31 rfl rfl ?_
    refine mw_iload (pc' := 34) dX12_stepsTo_32 rfl rfl ?_
    refine mw_iload (pc' := 36) dX12_stepsTo_34 rfl rfl ?_
    refine mw_callS (pc' := 39) (b' := (0, 0)) (b1 := b) (av := [.inl v4]) (rest := [.inl v5, .inl v2, .inl v1, .inr (some 47)]) dX12_stepsTo_36 rfl lkX12_196 rfl rfl (Nat.le_of_ble_eq_true rfl) ⟨Nat.le_of_eq (Nat.zero_add _), Nat.le_of_eq (Nat.zero_add _)⟩ ?_
    refine pX12_stepX ?_
    refine mw_imul (pc' := 40) dX12_stepsTo_39 rfl ?_
    refine mw_iadd (pc' := 41) dX12_stepsTo_40 rfl ?_
    refine mw_iload_n (pc' := 42) dX12_stepsTo_41 rfl rfl ?_
    refine mw_iload (pc' := 44) dX12_stepsTo_42 rfl rfl ?_
    refine mw_iload (pc' := 46) dX12_stepsTo_44 rfl rfl ?_
    refine mw_callS (pc' := 49) (b' := (0, 0)) (b1 := b) (av := [.inl v4]) (rest := [.inl v5, .inl v3, .inl (v2 + (v5 * (f_X12_stepX v4))), .inl v1, .inr (some 47)]) dX12_stepsTo_46 rfl lkX12_199 rfl rfl (Nat.le_of_ble_eq_true rfl) ⟨Nat.le_of_eq (Nat.zero_add _), Nat.le_of_eq (Nat.zero_add _)⟩ ?_
    refine pX12_stepY ?_
    refine mw_imul (pc' := 50) dX12_stepsTo_49 rfl ?_
    refine mw_iadd (pc' := 51) dX12_stepsTo_50 rfl ?_
    refine mw_callV (pc' := 54) (b' := (0, 0)) (b1 := b) (av := [.inl v1, .inl (v2 + (v5 * (f_X12_stepX v4))), .inl (v3 + (v5 * (f_X12_stepY v4)))]) (rest := []) dX12_stepsTo_51 rfl lkX12_193 rfl rfl (Nat.le_of_ble_eq_true rfl) ⟨Nat.le_of_eq (Nat.zero_add _), Nat.le_of_eq (Nat.zero_add _)⟩ (skT_47 hS) ?_
    refine mC_mono (fun r h1 hr => ?_) K
    obtain ⟨x2, rfl, hS, K⟩ := hr
    show mW _ _ _ _ _ _ [.inl x2] _ _
    refine mw_if_eq (pc' := 57) (tgt := 60) dX12_stepsTo_54 rfl (by decide) (fun c3 => ?_) (fun c3 => ?_)
    · replace K := K.1 c3
      refine mw_iload (pc' := 62) dX12_stepsTo_60 rfl rfl ?_
      refine mw_iconst (pc' := 63) (v := 1) dX12_stepsTo_62 rfl (by decide) ?_
      refine mw_iadd (pc' := 64) dX12_stepsTo_63 rfl ?_
      refine mw_istore (pc' := 66) dX12_stepsTo_64 rfl (by decide) ?_
      show mW _ _ _ _ _ [some (.inr (some 47)), some (.inl v1), some (.inl v2), some (.inl v3), some (.inl v4), some (.inl (v5 + 1))] _ _ _
      refine mw_goto (tgt := 3) dX12_stepsTo_66 (by decide) ?_
      exact K
    · replace K := K.2 c3
      refine mw_iload (pc' := 59) dX12_stepsTo_57 rfl rfl ?_
      exact mw_iret dX12_stepsTo_59 rfl rfl K

set_option maxRecDepth 100000 in
set_option maxHeartbeats 4000000 in
theorem qX12_sortAt {G : mG} {d : Nat} {b : Nat × Nat} {h : mH} {Q : Option mV → mH → Prop} (v1 : Int32) (v2 : Int32) (v3 : Int32) (v4 : Int32) (hS : mSk h)
    (K : mW G kX12_sortAt (d + 1) b 3 [some (.inr (some 47)), some (.inl v1), some (.inl v2), some (.inl v3), some (.inl v4), some (.inl 0), none, none, none, none] [] h Q) : mC G kX12_sortAt (d + 1) b [.inr (some 47), .inl v1, .inl v2, .inl v3, .inl v4] h Q := by
  refine mC_in rfl (Nat.le_of_ble_eq_true rfl) ?_
  show mW _ _ _ _ _ [some (.inr (some 47)), some (.inl v1), some (.inl v2), some (.inl v3), some (.inl v4), none, none, none, none, none] _ _ _
  refine mw_iconst (pc' := 1) (v := 0) dX12_sortAt_0 rfl (by decide) ?_
  refine mw_istore (pc' := 3) dX12_sortAt_1 rfl (by decide) ?_
  show mW _ _ _ _ _ [some (.inr (some 47)), some (.inl v1), some (.inl v2), some (.inl v3), some (.inl v4), some (.inl 0), none, none, none, none] _ _ _
  exact K

set_option maxRecDepth 100000 in
set_option maxHeartbeats 4000000 in
theorem qX12_sortAt_3 {G : mG} {d : Nat} {b : Nat × Nat} {h : mH} {Q : Option mV → mH → Prop} (v1 : Int32) (v2 : Int32) (v3 : Int32) (v4 : Int32) (v5 : Int32) (hS : mSk h)
    (K : vp_in v1 8 ∧ (((mI h 48 v1.toNatClampNeg) ≤ v5 → Q (some (.inl (-1))) h) ∧ (¬ ((mI h 48 v1.toNatClampNeg) ≤ v5) → mC G kX12_next0 d (0, 0) [.inr (some 47), .inl v1, .inl v5] h (fun r h2 => ∃ x3, r = some (.inl x3) ∧ mSk h2 ∧ ∀ w4 : Int32, w4 = (if ¬ (m_rem v5 2) = 0 then 0 else 1) → ∀ w5 : Int32, w5 = (if ¬ (m_rem v4 2) = 0 then 0 else 1) → ((w4 = w5 → ((w4 = 0 → vp_in ((16 * v1) + v5) 128 ∧ ∀ w7 : Int32, w7 = (if ¬ v4 = 1 then (v2 + 1) else v2) → ((¬ (mI h2 49 ((16 * v1) + v5).toNatClampNeg) = w7 → (((0 : Int32) = 0 → mW G kX12_sortAt (d + 1) b 3 [some (.inr (some 47)), some (.inl v1), some (.inl v2), some (.inl v3), some (.inl v4), some (.inl (v5 + 1)), none, none, none, none] [] h2 Q) ∧ (¬ (0 : Int32) = 0 → vp_in ((16 * v1) + v5) 128 ∧ Q (some (.inl (mI h2 51 ((16 * v1) + v5).toNatClampNeg))) h2))) ∧ ((mI h2 49 ((16 * v1) + v5).toNatClampNeg) = w7 → vp_in ((16 * v1) + v5) 128 ∧ vp_in x3 128 ∧ ∀ w12 : Int32, w12 = (if (f_X12_isBetween v3 (mI h2 50 ((16 * v1) + v5).toNatClampNeg) (mI h2 50 x3.toNatClampNeg)) = 0 then 0 else 1) → ((w12 = 0 → mW G kX12_sortAt (d + 1) b 3 [some (.inr (some 47)), some (.inl v1), some (.inl v2), some (.inl v3), some (.inl v4), some (.inl (v5 + 1)), none, none, none, none] [] h2 Q) ∧ (¬ w12 = 0 → vp_in ((16 * v1) + v5) 128 ∧ Q (some (.inl (mI h2 51 ((16 * v1) + v5).toNatClampNeg))) h2))))) ∧ (¬ w4 = 0 → vp_in ((16 * v1) + v5) 128 ∧ ∀ w21 : Int32, w21 = (if ¬ v4 = 0 then (v3 + 1) else v3) → ((¬ (mI h2 50 ((16 * v1) + v5).toNatClampNeg) = w21 → (((0 : Int32) = 0 → mW G kX12_sortAt (d + 1) b 3 [some (.inr (some 47)), some (.inl v1), some (.inl v2), some (.inl v3), some (.inl v4), some (.inl (v5 + 1)), none, none, none, none] [] h2 Q) ∧ (¬ (0 : Int32) = 0 → vp_in ((16 * v1) + v5) 128 ∧ Q (some (.inl (mI h2 51 ((16 * v1) + v5).toNatClampNeg))) h2))) ∧ ((mI h2 50 ((16 * v1) + v5).toNatClampNeg) = w21 → vp_in ((16 * v1) + v5) 128 ∧ vp_in x3 128 ∧ ∀ w26 : Int32, w26 = (if (f_X12_isBetween v2 (mI h2 49 ((16 * v1) + v5).toNatClampNeg) (mI h2 49 x3.toNatClampNeg)) = 0 then 0 else 1) → ((w26 = 0 → mW G kX12_sortAt (d + 1) b 3 [some (.inr (some 47)), some (.inl v1), some (.inl v2), some (.inl v3), some (.inl v4), some (.inl (v5 + 1)), none, none, none, none] [] h2 Q) ∧ (¬ w26 = 0 → vp_in ((16 * v1) + v5) 128 ∧ Q (some (.inl (mI h2 51 ((16 * v1) + v5).toNatClampNeg))) h2))))))) ∧ (¬ w4 = w5 → mW G kX12_sortAt (d + 1) b 3 [some (.inr (some 47)), some (.inl v1), some (.inl v2), some (.inl v3), some (.inl v4), some (.inl (v5 + 1)), none, none, none, none] [] h2 Q)))))) : mW G kX12_sortAt (d + 1) b 3 [some (.inr (some 47)), some (.inl v1), some (.inl v2), some (.inl v3), some (.inl v4), some (.inl v5), none, none, none, none] [] h Q := by
  refine mw_iload (pc' := 5) dX12_sortAt_3 rfl rfl ?_
  refine mw_aload_n (pc' := 6) dX12_sortAt_5 rfl rfl ?_
  refine mw_getR (pc' := 9) dX12_sortAt_6 rfl flX12_7 rfl (skT_47 hS) ?_
  rw [skR_47_1 hS]
  refine mw_iload_n (pc' := 10) dX12_sortAt_9 rfl rfl ?_
  obtain ⟨o1, K⟩ := K
  refine mw_ialdL (pc' := 11) dX12_sortAt_10 rfl (skT_48 hS) (skL_48 hS) o1 ?_
  refine mw_icmp_ge (pc' := 14) (tgt := 192) dX12_sortAt_11 rfl (by decide) (fun c40 => ?_) (fun c40 => ?_)
  · replace K := K.1 c40
    refine mw_iconst (pc' := 193) (v := (-1)) dX12_sortAt_192 rfl (by decide) ?_
    exact mw_iret dX12_sortAt_193 rfl rfl K
  · replace K := K.2 c40
    refine mw_bipush (pc' := 16) (v := 16) dX12_sortAt_14 rfl (by decide) ?_
    refine mw_iload_n (pc' := 17) dX12_sortAt_16 rfl rfl ?_
    refine mw_imul (pc' := 18) dX12_sortAt_17 rfl ?_
    refine mw_iload (pc' := 20) dX12_sortAt_18 rfl rfl ?_
    refine mw_iadd (pc' := 21) dX12_sortAt_20 rfl ?_
    refine mw_istore (pc' := 23) dX12_sortAt_21 rfl (by decide) ?_
    show mW _ _ _ _ _ [some (.inr (some 47)), some (.inl v1), some (.inl v2), some (.inl v3), some (.inl v4), some (.inl v5), some (.inl ((16 * v1) + v5)), none, none, none] _ _ _
    refine mw_aload_n (pc' := 24) dX12_sortAt_23 rfl rfl ?_
    refine mw_iload_n (pc' := 25) dX12_sortAt_24 rfl rfl ?_
    refine mw_iload (pc' := 27) dX12_sortAt_25 rfl rfl ?_
    refine mw_callV (pc' := 30) (b' := (0, 0)) (b1 := b) (av := [.inl v1, .inl v5]) (rest := []) dX12_sortAt_27 rfl lkX12_157 rfl rfl (Nat.le_of_ble_eq_true rfl) ⟨Nat.le_of_eq (Nat.zero_add _), Nat.le_of_eq (Nat.zero_add _)⟩ (skT_47 hS) ?_
    refine mC_mono (fun r h2 hr => ?_) K
    obtain ⟨x3, rfl, hS, K⟩ := hr
    show mW _ _ _ _ _ _ [.inl x3] _ _
    refine mw_istore (pc' := 32) dX12_sortAt_30 rfl (by decide) ?_
    show mW _ _ _ _ _ [some (.inr (some 47)), some (.inl v1), some (.inl v2), some (.inl v3), some (.inl v4), some (.inl v5), some (.inl ((16 * v1) + v5)), some (.inl x3), none, none] _ _ _
    refine mw_iload (pc' := 34) dX12_sortAt_32 rfl rfl ?_
    refine mw_iconst (pc' := 35) (v := 2) dX12_sortAt_34 rfl (by decide) ?_
    refine mw_iremM (pc' := 36) dX12_sortAt_35 rfl (by decide) ?_
    have J38 : ∀ w4 : Int32, w4 = (if ¬ (m_rem v5 2) = 0 then 0 else 1) → mW G kX12_sortAt (d + 1) b 44 [some (.inr (some 47)), some (.inl v1), some (.inl v2), some (.inl v3), some (.inl v4), some (.inl v5), some (.inl ((16 * v1) + v5)), some (.inl x3), none, none] ([.inl w4]) h2 Q := by
      intro w4 ew4
      replace K := K w4 ew4
      refine mw_istore (pc' := 46) dX12_sortAt_44 rfl (by decide) ?_
      show mW _ _ _ _ _ [some (.inr (some 47)), some (.inl v1), some (.inl v2), some (.inl v3), some (.inl v4), some (.inl v5), some (.inl ((16 * v1) + v5)), some (.inl x3), some (.inl w4), none] _ _ _
      refine mw_iload (pc' := 48) dX12_sortAt_46 rfl rfl ?_
      refine mw_iload (pc' := 50) dX12_sortAt_48 rfl rfl ?_
      refine mw_iconst (pc' := 51) (v := 2) dX12_sortAt_50 rfl (by decide) ?_
      refine mw_iremM (pc' := 52) dX12_sortAt_51 rfl (by decide) ?_
      have J36 : ∀ w5 : Int32, w5 = (if ¬ (m_rem v4 2) = 0 then 0 else 1) → mW G kX12_sortAt (d + 1) b 60 [some (.inr (some 47)), some (.inl v1), some (.inl v2), some (.inl v3), some (.inl v4), some (.inl v5), some (.inl ((16 * v1) + v5)), some (.inl x3), some (.inl w4), none] ([.inl w5, .inl w4]) h2 Q := by
        intro w5 ew5
        replace K := K w5 ew5
        refine mw_icmp_eq (pc' := 63) (tgt := 66) dX12_sortAt_60 rfl (by decide) (fun c35 => ?_) (fun c35 => ?_)
        · replace K := K.1 c35
          refine mw_iload (pc' := 68) dX12_sortAt_66 rfl rfl ?_
          refine mw_if_eq (pc' := 71) (tgt := 122) dX12_sortAt_68 rfl (by decide) (fun c34 => ?_) (fun c34 => ?_)
          · replace K := K.1 c34
            refine mw_aload_n (pc' := 123) dX12_sortAt_122 rfl rfl ?_
            refine mw_getR (pc' := 126) dX12_sortAt_123 rfl flX12_13 rfl (skT_47 hS) ?_
            rw [skR_47_2 hS]
            refine mw_iload (pc' := 128) dX12_sortAt_126 rfl rfl ?_
            obtain ⟨o6, K⟩ := K
            refine mw_ialdL (pc' := 129) dX12_sortAt_128 rfl (skT_49 hS) (skL_49 hS) o6 ?_
            refine mw_iload (pc' := 131) dX12_sortAt_129 rfl rfl ?_
            refine mw_iconst (pc' := 132) (v := 1) dX12_sortAt_131 rfl (by decide) ?_
            have J18 : ∀ w7 : Int32, w7 = (if ¬ v4 = 1 then (v2 + 1) else v2) → mW G kX12_sortAt (d + 1) b 142 [some (.inr (some 47)), some (.inl v1), some (.inl v2), some (.inl v3), some (.inl v4), some (.inl v5), some (.inl ((16 * v1) + v5)), some (.inl x3), some (.inl w4), none] ([.inl w7, .inl (mI h2 49 ((16 * v1) + v5).toNatClampNeg)]) h2 Q := by
              intro w7 ew7
              replace K := K w7 ew7
              refine mw_icmp_ne (pc' := 145) (tgt := 170) dX12_sortAt_142 rfl (by decide) (fun c17 => ?_) (fun c17 => ?_)
              · replace K := K.1 c17
                refine mw_iconst (pc' := 171) (v := 0) dX12_sortAt_170 rfl (by decide) ?_
                refine mw_istore (pc' := 173) dX12_sortAt_171 rfl (by decide) ?_
                show mW _ _ _ _ _ [some (.inr (some 47)), some (.inl v1), some (.inl v2), some (.inl v3), some (.inl v4), some (.inl v5), some (.inl ((16 * v1) + v5)), some (.inl x3), some (.inl w4), some (.inl 0)] _ _ _
                refine mw_iload (pc' := 175) dX12_sortAt_173 rfl rfl ?_
                refine mw_if_eq (pc' := 178) (tgt := 186) dX12_sortAt_175 rfl (by decide) (fun c9 => ?_) (fun c9 => ?_)
                · replace K := K.1 c9
                  refine mw_iinc (pc' := 189) (v := v5 + 1) dX12_sortAt_186 rfl (by decide) rfl rfl ?_
                  show mW _ _ _ _ _ [some (.inr (some 47)), some (.inl v1), some (.inl v2), some (.inl v3), some (.inl v4), some (.inl (v5 + 1)), some (.inl ((16 * v1) + v5)), some (.inl x3), some (.inl w4), some (.inl 0)] _ _ _
                  refine mw_goto (tgt := 3) dX12_sortAt_189 (by decide) ?_
                  refine mw_weak (ls' := [some (.inr (some 47)), some (.inl v1), some (.inl v2), some (.inl v3), some (.inl v4), some (.inl (v5 + 1)), none, none, none, none]) ?_ ?_
                  · intro i v hv; match i, hv with
                    | 0, hv => exact hv
                    | 1, hv => exact hv
                    | 2, hv => exact hv
                    | 3, hv => exact hv
                    | 4, hv => exact hv
                    | 5, hv => exact hv
                    | 6, hv => cases hv
                    | 7, hv => cases hv
                    | 8, hv => cases hv
                    | 9, hv => cases hv
                    | n + 10, hv => cases hv
                  exact K
                · replace K := K.2 c9
                  refine mw_aload_n (pc' := 179) dX12_sortAt_178 rfl rfl ?_
                  refine mw_getR (pc' := 182) dX12_sortAt_179 rfl flX12_19 rfl (skT_47 hS) ?_
                  rw [skR_47_4 hS]
                  refine mw_iload (pc' := 184) dX12_sortAt_182 rfl rfl ?_
                  obtain ⟨o8, K⟩ := K
                  refine mw_ialdL (pc' := 185) dX12_sortAt_184 rfl (skT_51 hS) (skL_51 hS) o8 ?_
                  exact mw_iret dX12_sortAt_185 rfl rfl K
              · replace K := K.2 c17
                refine mw_iload_n (pc' := 146) dX12_sortAt_145 rfl rfl ?_
                refine mw_aload_n (pc' := 147) dX12_sortAt_146 rfl rfl ?_
                refine mw_getR (pc' := 150) dX12_sortAt_147 rfl flX12_16 rfl (skT_47 hS) ?_
                rw [skR_47_3 hS]
                refine mw_iload (pc' := 152) dX12_sortAt_150 rfl rfl ?_
                obtain ⟨o10, K⟩ := K
                refine mw_ialdL (pc' := 153) dX12_sortAt_152 rfl (skT_50 hS) (skL_50 hS) o10 ?_
                refine mw_aload_n (pc' := 154) dX12_sortAt_153 rfl rfl ?_
                refine mw_getR (pc' := 157) dX12_sortAt_154 rfl flX12_16 rfl (skT_47 hS) ?_
                rw [skR_47_3 hS]
                refine mw_iload (pc' := 159) dX12_sortAt_157 rfl rfl ?_
                obtain ⟨o11, K⟩ := K
                refine mw_ialdL (pc' := 160) dX12_sortAt_159 rfl (skT_50 hS) (skL_50 hS) o11 ?_
                refine mw_callS (pc' := 163) (b' := (0, 0)) (b1 := b) (av := [.inl v3, .inl (mI h2 50 ((16 * v1) + v5).toNatClampNeg), .inl (mI h2 50 x3.toNatClampNeg)]) (rest := []) dX12_sortAt_160 rfl lkX12_161 rfl rfl (Nat.le_of_ble_eq_true rfl) ⟨Nat.le_of_eq (Nat.zero_add _), Nat.le_of_eq (Nat.zero_add _)⟩ ?_
                refine pX12_isBetween ?_
                have J15 : ∀ w12 : Int32, w12 = (if (f_X12_isBetween v3 (mI h2 50 ((16 * v1) + v5).toNatClampNeg) (mI h2 50 x3.toNatClampNeg)) = 0 then 0 else 1) → mW G kX12_sortAt (d + 1) b 171 [some (.inr (some 47)), some (.inl v1), some (.inl v2), some (.inl v3), some (.inl v4), some (.inl v5), some (.inl ((16 * v1) + v5)), some (.inl x3), some (.inl w4), none] ([.inl w12]) h2 Q := by
                  intro w12 ew12
                  replace K := K w12 ew12
                  refine mw_istore (pc' := 173) dX12_sortAt_171 rfl (by decide) ?_
                  show mW _ _ _ _ _ [some (.inr (some 47)), some (.inl v1), some (.inl v2), some (.inl v3), some (.inl v4), some (.inl v5), some (.inl ((16 * v1) + v5)), some (.inl x3), some (.inl w4), some (.inl w12)] _ _ _
                  refine mw_iload (pc' := 175) dX12_sortAt_173 rfl rfl ?_
                  refine mw_if_eq (pc' := 178) (tgt := 186) dX12_sortAt_175 rfl (by decide) (fun c14 => ?_) (fun c14 => ?_)
                  · replace K := K.1 c14
                    refine mw_iinc (pc' := 189) (v := v5 + 1) dX12_sortAt_186 rfl (by decide) rfl rfl ?_
                    show mW _ _ _ _ _ [some (.inr (some 47)), some (.inl v1), some (.inl v2), some (.inl v3), some (.inl v4), some (.inl (v5 + 1)), some (.inl ((16 * v1) + v5)), some (.inl x3), some (.inl w4), some (.inl w12)] _ _ _
                    refine mw_goto (tgt := 3) dX12_sortAt_189 (by decide) ?_
                    refine mw_weak (ls' := [some (.inr (some 47)), some (.inl v1), some (.inl v2), some (.inl v3), some (.inl v4), some (.inl (v5 + 1)), none, none, none, none]) ?_ ?_
                    · intro i v hv; match i, hv with
                      | 0, hv => exact hv
                      | 1, hv => exact hv
                      | 2, hv => exact hv
                      | 3, hv => exact hv
                      | 4, hv => exact hv
                      | 5, hv => exact hv
                      | 6, hv => cases hv
                      | 7, hv => cases hv
                      | 8, hv => cases hv
                      | 9, hv => cases hv
                      | n + 10, hv => cases hv
                    exact K
                  · replace K := K.2 c14
                    refine mw_aload_n (pc' := 179) dX12_sortAt_178 rfl rfl ?_
                    refine mw_getR (pc' := 182) dX12_sortAt_179 rfl flX12_19 rfl (skT_47 hS) ?_
                    rw [skR_47_4 hS]
                    refine mw_iload (pc' := 184) dX12_sortAt_182 rfl rfl ?_
                    obtain ⟨o13, K⟩ := K
                    refine mw_ialdL (pc' := 185) dX12_sortAt_184 rfl (skT_51 hS) (skL_51 hS) o13 ?_
                    exact mw_iret dX12_sortAt_185 rfl rfl K
                refine mw_if_eq (pc' := 166) (tgt := 170) dX12_sortAt_163 rfl (by decide) (fun c16 => ?_) (fun c16 => ?_)
                · refine mw_iconst (pc' := 171) (v := 0) dX12_sortAt_170 rfl (by decide) ?_
                  exact J15 _ (by rw [if_pos c16])
                · refine mw_iconst (pc' := 167) (v := 1) dX12_sortAt_166 rfl (by decide) ?_
                  refine mw_goto (tgt := 171) dX12_sortAt_167 (by decide) ?_
                  exact J15 _ (by rw [if_neg c16])
            refine mw_icmp_ne (pc' := 135) (tgt := 139) dX12_sortAt_132 rfl (by decide) (fun c19 => ?_) (fun c19 => ?_)
            · refine mw_iload_n (pc' := 140) dX12_sortAt_139 rfl rfl ?_
              refine mw_iconst (pc' := 141) (v := 1) dX12_sortAt_140 rfl (by decide) ?_
              refine mw_iadd (pc' := 142) dX12_sortAt_141 rfl ?_
              exact J18 _ (by rw [if_pos c19])
            · refine mw_iload_n (pc' := 136) dX12_sortAt_135 rfl rfl ?_
              refine mw_goto (tgt := 142) dX12_sortAt_136 (by decide) ?_
              exact J18 _ (by rw [if_neg (fun z => z c19)])
          · replace K := K.2 c34
            refine mw_aload_n (pc' := 72) dX12_sortAt_71 rfl rfl ?_
            refine mw_getR (pc' := 75) dX12_sortAt_72 rfl flX12_16 rfl (skT_47 hS) ?_
            rw [skR_47_3 hS]
            refine mw_iload (pc' := 77) dX12_sortAt_75 rfl rfl ?_
            obtain ⟨o20, K⟩ := K
            refine mw_ialdL (pc' := 78) dX12_sortAt_77 rfl (skT_50 hS) (skL_50 hS) o20 ?_
            refine mw_iload (pc' := 80) dX12_sortAt_78 rfl rfl ?_
            have J32 : ∀ w21 : Int32, w21 = (if ¬ v4 = 0 then (v3 + 1) else v3) → mW G kX12_sortAt (d + 1) b 90 [some (.inr (some 47)), some (.inl v1), some (.inl v2), some (.inl v3), some (.inl v4), some (.inl v5), some (.inl ((16 * v1) + v5)), some (.inl x3), some (.inl w4), none] ([.inl w21, .inl (mI h2 50 ((16 * v1) + v5).toNatClampNeg)]) h2 Q := by
              intro w21 ew21
              replace K := K w21 ew21
              refine mw_icmp_ne (pc' := 93) (tgt := 118) dX12_sortAt_90 rfl (by decide) (fun c31 => ?_) (fun c31 => ?_)
              · replace K := K.1 c31
                refine mw_iconst (pc' := 119) (v := 0) dX12_sortAt_118 rfl (by decide) ?_
                refine mw_goto (tgt := 171) dX12_sortAt_119 (by decide) ?_
                refine mw_istore (pc' := 173) dX12_sortAt_171 rfl (by decide) ?_
                show mW _ _ _ _ _ [some (.inr (some 47)), some (.inl v1), some (.inl v2), some (.inl v3), some (.inl v4), some (.inl v5), some (.inl ((16 * v1) + v5)), some (.inl x3), some (.inl w4), some (.inl 0)] _ _ _
                refine mw_iload (pc' := 175) dX12_sortAt_173 rfl rfl ?_
                refine mw_if_eq (pc' := 178) (tgt := 186) dX12_sortAt_175 rfl (by decide) (fun c23 => ?_) (fun c23 => ?_)
                · replace K := K.1 c23
                  refine mw_iinc (pc' := 189) (v := v5 + 1) dX12_sortAt_186 rfl (by decide) rfl rfl ?_
                  show mW _ _ _ _ _ [some (.inr (some 47)), some (.inl v1), some (.inl v2), some (.inl v3), some (.inl v4), some (.inl (v5 + 1)), some (.inl ((16 * v1) + v5)), some (.inl x3), some (.inl w4), some (.inl 0)] _ _ _
                  refine mw_goto (tgt := 3) dX12_sortAt_189 (by decide) ?_
                  refine mw_weak (ls' := [some (.inr (some 47)), some (.inl v1), some (.inl v2), some (.inl v3), some (.inl v4), some (.inl (v5 + 1)), none, none, none, none]) ?_ ?_
                  · intro i v hv; match i, hv with
                    | 0, hv => exact hv
                    | 1, hv => exact hv
                    | 2, hv => exact hv
                    | 3, hv => exact hv
                    | 4, hv => exact hv
                    | 5, hv => exact hv
                    | 6, hv => cases hv
                    | 7, hv => cases hv
                    | 8, hv => cases hv
                    | 9, hv => cases hv
                    | n + 10, hv => cases hv
                  exact K
                · replace K := K.2 c23
                  refine mw_aload_n (pc' := 179) dX12_sortAt_178 rfl rfl ?_
                  refine mw_getR (pc' := 182) dX12_sortAt_179 rfl flX12_19 rfl (skT_47 hS) ?_
                  rw [skR_47_4 hS]
                  refine mw_iload (pc' := 184) dX12_sortAt_182 rfl rfl ?_
                  obtain ⟨o22, K⟩ := K
                  refine mw_ialdL (pc' := 185) dX12_sortAt_184 rfl (skT_51 hS) (skL_51 hS) o22 ?_
                  exact mw_iret dX12_sortAt_185 rfl rfl K
              · replace K := K.2 c31
                refine mw_iload_n (pc' := 94) dX12_sortAt_93 rfl rfl ?_
                refine mw_aload_n (pc' := 95) dX12_sortAt_94 rfl rfl ?_
                refine mw_getR (pc' := 98) dX12_sortAt_95 rfl flX12_13 rfl (skT_47 hS) ?_
                rw [skR_47_2 hS]
                refine mw_iload (pc' := 100) dX12_sortAt_98 rfl rfl ?_
                obtain ⟨o24, K⟩ := K
                refine mw_ialdL (pc' := 101) dX12_sortAt_100 rfl (skT_49 hS) (skL_49 hS) o24 ?_
                refine mw_aload_n (pc' := 102) dX12_sortAt_101 rfl rfl ?_
                refine mw_getR (pc' := 105) dX12_sortAt_102 rfl flX12_13 rfl (skT_47 hS) ?_
                rw [skR_47_2 hS]
                refine mw_iload (pc' := 107) dX12_sortAt_105 rfl rfl ?_
                obtain ⟨o25, K⟩ := K
                refine mw_ialdL (pc' := 108) dX12_sortAt_107 rfl (skT_49 hS) (skL_49 hS) o25 ?_
                refine mw_callS (pc' := 111) (b' := (0, 0)) (b1 := b) (av := [.inl v2, .inl (mI h2 49 ((16 * v1) + v5).toNatClampNeg), .inl (mI h2 49 x3.toNatClampNeg)]) (rest := []) dX12_sortAt_108 rfl lkX12_161 rfl rfl (Nat.le_of_ble_eq_true rfl) ⟨Nat.le_of_eq (Nat.zero_add _), Nat.le_of_eq (Nat.zero_add _)⟩ ?_
                refine pX12_isBetween ?_
                have J29 : ∀ w26 : Int32, w26 = (if (f_X12_isBetween v2 (mI h2 49 ((16 * v1) + v5).toNatClampNeg) (mI h2 49 x3.toNatClampNeg)) = 0 then 0 else 1) → mW G kX12_sortAt (d + 1) b 171 [some (.inr (some 47)), some (.inl v1), some (.inl v2), some (.inl v3), some (.inl v4), some (.inl v5), some (.inl ((16 * v1) + v5)), some (.inl x3), some (.inl w4), none] ([.inl w26]) h2 Q := by
                  intro w26 ew26
                  replace K := K w26 ew26
                  refine mw_istore (pc' := 173) dX12_sortAt_171 rfl (by decide) ?_
                  show mW _ _ _ _ _ [some (.inr (some 47)), some (.inl v1), some (.inl v2), some (.inl v3), some (.inl v4), some (.inl v5), some (.inl ((16 * v1) + v5)), some (.inl x3), some (.inl w4), some (.inl w26)] _ _ _
                  refine mw_iload (pc' := 175) dX12_sortAt_173 rfl rfl ?_
                  refine mw_if_eq (pc' := 178) (tgt := 186) dX12_sortAt_175 rfl (by decide) (fun c28 => ?_) (fun c28 => ?_)
                  · replace K := K.1 c28
                    refine mw_iinc (pc' := 189) (v := v5 + 1) dX12_sortAt_186 rfl (by decide) rfl rfl ?_
                    show mW _ _ _ _ _ [some (.inr (some 47)), some (.inl v1), some (.inl v2), some (.inl v3), some (.inl v4), some (.inl (v5 + 1)), some (.inl ((16 * v1) + v5)), some (.inl x3), some (.inl w4), some (.inl w26)] _ _ _
                    refine mw_goto (tgt := 3) dX12_sortAt_189 (by decide) ?_
                    refine mw_weak (ls' := [some (.inr (some 47)), some (.inl v1), some (.inl v2), some (.inl v3), some (.inl v4), some (.inl (v5 + 1)), none, none, none, none]) ?_ ?_
                    · intro i v hv; match i, hv with
                      | 0, hv => exact hv
                      | 1, hv => exact hv
                      | 2, hv => exact hv
                      | 3, hv => exact hv
                      | 4, hv => exact hv
                      | 5, hv => exact hv
                      | 6, hv => cases hv
                      | 7, hv => cases hv
                      | 8, hv => cases hv
                      | 9, hv => cases hv
                      | n + 10, hv => cases hv
                    exact K
                  · replace K := K.2 c28
                    refine mw_aload_n (pc' := 179) dX12_sortAt_178 rfl rfl ?_
                    refine mw_getR (pc' := 182) dX12_sortAt_179 rfl flX12_19 rfl (skT_47 hS) ?_
                    rw [skR_47_4 hS]
                    refine mw_iload (pc' := 184) dX12_sortAt_182 rfl rfl ?_
                    obtain ⟨o27, K⟩ := K
                    refine mw_ialdL (pc' := 185) dX12_sortAt_184 rfl (skT_51 hS) (skL_51 hS) o27 ?_
                    exact mw_iret dX12_sortAt_185 rfl rfl K
                refine mw_if_eq (pc' := 114) (tgt := 118) dX12_sortAt_111 rfl (by decide) (fun c30 => ?_) (fun c30 => ?_)
                · refine mw_iconst (pc' := 119) (v := 0) dX12_sortAt_118 rfl (by decide) ?_
                  refine mw_goto (tgt := 171) dX12_sortAt_119 (by decide) ?_
                  exact J29 _ (by rw [if_pos c30])
                · refine mw_iconst (pc' := 115) (v := 1) dX12_sortAt_114 rfl (by decide) ?_
                  refine mw_goto (tgt := 171) dX12_sortAt_115 (by decide) ?_
                  exact J29 _ (by rw [if_neg c30])
            refine mw_if_ne (pc' := 83) (tgt := 87) dX12_sortAt_80 rfl (by decide) (fun c33 => ?_) (fun c33 => ?_)
            · refine mw_iload_n (pc' := 88) dX12_sortAt_87 rfl rfl ?_
              refine mw_iconst (pc' := 89) (v := 1) dX12_sortAt_88 rfl (by decide) ?_
              refine mw_iadd (pc' := 90) dX12_sortAt_89 rfl ?_
              exact J32 _ (by rw [if_pos c33])
            · refine mw_iload_n (pc' := 84) dX12_sortAt_83 rfl rfl ?_
              refine mw_goto (tgt := 90) dX12_sortAt_84 (by decide) ?_
              exact J32 _ (by rw [if_neg (fun z => z c33)])
        · replace K := K.2 c35
          refine mw_goto (tgt := 186) dX12_sortAt_63 (by decide) ?_
          refine mw_iinc (pc' := 189) (v := v5 + 1) dX12_sortAt_186 rfl (by decide) rfl rfl ?_
          show mW _ _ _ _ _ [some (.inr (some 47)), some (.inl v1), some (.inl v2), some (.inl v3), some (.inl v4), some (.inl (v5 + 1)), some (.inl ((16 * v1) + v5)), some (.inl x3), some (.inl w4), none] _ _ _
          refine mw_goto (tgt := 3) dX12_sortAt_189 (by decide) ?_
          refine mw_weak (ls' := [some (.inr (some 47)), some (.inl v1), some (.inl v2), some (.inl v3), some (.inl v4), some (.inl (v5 + 1)), none, none, none, none]) ?_ ?_
          · intro i v hv; match i, hv with
            | 0, hv => exact hv
            | 1, hv => exact hv
            | 2, hv => exact hv
            | 3, hv => exact hv
            | 4, hv => exact hv
            | 5, hv => exact hv
            | 6, hv => cases hv
            | 7, hv => cases hv
            | 8, hv => cases hv
            | 9, hv => cases hv
            | n + 10, hv => cases hv
          exact K
      refine mw_if_ne (pc' := 55) (tgt := 59) dX12_sortAt_52 rfl (by decide) (fun c37 => ?_) (fun c37 => ?_)
      · refine mw_iconst (pc' := 60) (v := 0) dX12_sortAt_59 rfl (by decide) ?_
        exact J36 _ (by rw [if_pos c37])
      · refine mw_iconst (pc' := 56) (v := 1) dX12_sortAt_55 rfl (by decide) ?_
        refine mw_goto (tgt := 60) dX12_sortAt_56 (by decide) ?_
        exact J36 _ (by rw [if_neg (fun z => z c37)])
    refine mw_if_ne (pc' := 39) (tgt := 43) dX12_sortAt_36 rfl (by decide) (fun c39 => ?_) (fun c39 => ?_)
    · refine mw_iconst (pc' := 44) (v := 0) dX12_sortAt_43 rfl (by decide) ?_
      exact J38 _ (by rw [if_pos c39])
    · refine mw_iconst (pc' := 40) (v := 1) dX12_sortAt_39 rfl (by decide) ?_
      refine mw_goto (tgt := 44) dX12_sortAt_40 (by decide) ?_
      exact J38 _ (by rw [if_neg (fun z => z c39)])

set_option maxRecDepth 100000 in
set_option maxHeartbeats 4000000 in
theorem qX12_sortTo {G : mG} {d : Nat} {b : Nat × Nat} {h : mH} {Q : Option mV → mH → Prop} (v1 : Int32) (v2 : Int32) (v3 : Int32) (v4 : Int32) (hS : mSk h)
    (K : mC G kX12_stepsTo (d + 1) (0, 0) [.inr (some 47), .inl v1, .inl v2, .inl v3, .inl v4] h (fun r h1 => ∃ x2, r = some (.inl x2) ∧ mSk h1 ∧ ((¬ x2 = 0 → mC G kX12_sortAt (d + 1) (0, 0) [.inr (some 47), .inl v1, .inl (v2 + (x2 * (f_X12_stepX v4))), .inl (v3 + (x2 * (f_X12_stepY v4))), .inl v4] h1 (fun r h3 => ∃ x4, r = some (.inl x4) ∧ mSk h3 ∧ Q (some (.inl x4)) h3)) ∧ (x2 = 0 → Q (some (.inl (-2))) h1)))) : mC G kX12_sortTo (d + 2) b [.inr (some 47), .inl v1, .inl v2, .inl v3, .inl v4] h Q := by
  refine mC_in rfl (Nat.le_of_ble_eq_true rfl) ?_
  show mW _ _ _ _ _ [some (.inr (some 47)), some (.inl v1), some (.inl v2), some (.inl v3), some (.inl v4), none] _ _ _
  refine mw_aload_n (pc' := 1) dX12_sortTo_0 rfl rfl ?_
  refine mw_iload_n (pc' := 2) dX12_sortTo_1 rfl rfl ?_
  refine mw_iload_n (pc' := 3) dX12_sortTo_2 rfl rfl ?_
  refine mw_iload_n (pc' := 4) dX12_sortTo_3 rfl rfl ?_
  refine mw_iload (pc' := 6) dX12_sortTo_4 rfl rfl ?_
  refine mw_callV (pc' := 9) (b' := (0, 0)) (b1 := b) (av := [.inl v1, .inl v2, .inl v3, .inl v4]) (rest := []) dX12_sortTo_6 rfl lkX12_202 rfl rfl (Nat.le_of_ble_eq_true rfl) ⟨Nat.le_of_eq (Nat.zero_add _), Nat.le_of_eq (Nat.zero_add _)⟩ (skT_47 hS) ?_
  refine mC_mono (fun r h1 hr => ?_) K
  obtain ⟨x2, rfl, hS, K⟩ := hr
  show mW _ _ _ _ _ _ [.inl x2] _ _
  refine mw_istore (pc' := 11) dX12_sortTo_9 rfl (by decide) ?_
  show mW _ _ _ _ _ [some (.inr (some 47)), some (.inl v1), some (.inl v2), some (.inl v3), some (.inl v4), some (.inl x2)] _ _ _
  refine mw_iload (pc' := 13) dX12_sortTo_11 rfl rfl ?_
  refine mw_if_ne (pc' := 16) (tgt := 21) dX12_sortTo_13 rfl (by decide) (fun c5 => ?_) (fun c5 => ?_)
  · replace K := K.1 c5
    refine mw_aload_n (pc' := 22) dX12_sortTo_21 rfl rfl ?_
    refine mw_iload_n (pc' := 23) dX12_sortTo_22 rfl rfl ?_
    refine mw_iload_n (pc' := 24) dX12_sortTo_23 rfl rfl ?_
    refine mw_iload (pc' := 26) dX12_sortTo_24 rfl rfl ?_
    refine mw_iload (pc' := 28) dX12_sortTo_26 rfl rfl ?_
    refine mw_callS (pc' := 31) (b' := (0, 0)) (b1 := b) (av := [.inl v4]) (rest := [.inl x2, .inl v2, .inl v1, .inr (some 47)]) dX12_sortTo_28 rfl lkX12_196 rfl rfl (Nat.le_of_ble_eq_true rfl) ⟨Nat.le_of_eq (Nat.zero_add _), Nat.le_of_eq (Nat.zero_add _)⟩ ?_
    refine pX12_stepX ?_
    refine mw_imul (pc' := 32) dX12_sortTo_31 rfl ?_
    refine mw_iadd (pc' := 33) dX12_sortTo_32 rfl ?_
    refine mw_iload_n (pc' := 34) dX12_sortTo_33 rfl rfl ?_
    refine mw_iload (pc' := 36) dX12_sortTo_34 rfl rfl ?_
    refine mw_iload (pc' := 38) dX12_sortTo_36 rfl rfl ?_
    refine mw_callS (pc' := 41) (b' := (0, 0)) (b1 := b) (av := [.inl v4]) (rest := [.inl x2, .inl v3, .inl (v2 + (x2 * (f_X12_stepX v4))), .inl v1, .inr (some 47)]) dX12_sortTo_38 rfl lkX12_199 rfl rfl (Nat.le_of_ble_eq_true rfl) ⟨Nat.le_of_eq (Nat.zero_add _), Nat.le_of_eq (Nat.zero_add _)⟩ ?_
    refine pX12_stepY ?_
    refine mw_imul (pc' := 42) dX12_sortTo_41 rfl ?_
    refine mw_iadd (pc' := 43) dX12_sortTo_42 rfl ?_
    refine mw_iload (pc' := 45) dX12_sortTo_43 rfl rfl ?_
    refine mw_callV (pc' := 48) (b' := (0, 0)) (b1 := b) (av := [.inl v1, .inl (v2 + (x2 * (f_X12_stepX v4))), .inl (v3 + (x2 * (f_X12_stepY v4))), .inl v4]) (rest := []) dX12_sortTo_45 rfl lkX12_206 rfl rfl (Nat.le_of_ble_eq_true rfl) ⟨Nat.le_of_eq (Nat.zero_add _), Nat.le_of_eq (Nat.zero_add _)⟩ (skT_47 hS) ?_
    refine mC_mono (fun r h3 hr => ?_) K
    obtain ⟨x4, rfl, hS, K⟩ := hr
    show mW _ _ _ _ _ _ [.inl x4] _ _
    exact mw_iret dX12_sortTo_48 rfl rfl K
  · replace K := K.2 c5
    refine mw_bipush (pc' := 18) (v := (-2)) dX12_sortTo_16 rfl (by decide) ?_
    refine mw_goto (tgt := 48) dX12_sortTo_18 (by decide) ?_
    exact mw_iret dX12_sortTo_48 rfl rfl K

set_option maxRecDepth 100000 in
set_option maxHeartbeats 4000000 in
theorem qX12_echoOf {G : mG} {d : Nat} {b : Nat × Nat} {h : mH} {Q : Option mV → mH → Prop} (v1 : Int32) (v2 : Int32) (v3 : Int32) (v4 : Int32) (hS : mSk h)
    (K : mC G kX12_sortTo (d + 2) (0, 0) [.inr (some 47), .inl v1, .inl v2, .inl v3, .inl v4] h (fun r h1 => ∃ x2, r = some (.inl x2) ∧ mSk h1 ∧ ((x2 = (-2) → Q (some (.inl 0)) h1) ∧ (¬ x2 = (-2) → ((¬ x2 = 1 → mC G kX12_stepsTo (d + 2) (0, 0) [.inr (some 47), .inl v1, .inl v2, .inl v3, .inl v4] h1 (fun r h3 => ∃ x4, r = some (.inl x4) ∧ mSk h3 ∧ Q (some (.inl (2 * x4))) h3)) ∧ (x2 = 1 → Q (some (.inl 0)) h1)))))) : mC G kX12_echoOf (d + 3) b [.inr (some 47), .inl v1, .inl v2, .inl v3, .inl v4] h Q := by
  refine mC_in rfl (Nat.le_of_ble_eq_true rfl) ?_
  show mW _ _ _ _ _ [some (.inr (some 47)), some (.inl v1), some (.inl v2), some (.inl v3), some (.inl v4), none] _ _ _
  refine mw_aload_n (pc' := 1) dX12_echoOf_0 rfl rfl ?_
  refine mw_iload_n (pc' := 2) dX12_echoOf_1 rfl rfl ?_
  refine mw_iload_n (pc' := 3) dX12_echoOf_2 rfl rfl ?_
  refine mw_iload_n (pc' := 4) dX12_echoOf_3 rfl rfl ?_
  refine mw_iload (pc' := 6) dX12_echoOf_4 rfl rfl ?_
  refine mw_callV (pc' := 9) (b' := (0, 0)) (b1 := b) (av := [.inl v1, .inl v2, .inl v3, .inl v4]) (rest := []) dX12_echoOf_6 rfl lkX12_209 rfl rfl (Nat.le_of_ble_eq_true rfl) ⟨Nat.le_of_eq (Nat.zero_add _), Nat.le_of_eq (Nat.zero_add _)⟩ (skT_47 hS) ?_
  refine mC_mono (fun r h1 hr => ?_) K
  obtain ⟨x2, rfl, hS, K⟩ := hr
  show mW _ _ _ _ _ _ [.inl x2] _ _
  refine mw_istore (pc' := 11) dX12_echoOf_9 rfl (by decide) ?_
  show mW _ _ _ _ _ [some (.inr (some 47)), some (.inl v1), some (.inl v2), some (.inl v3), some (.inl v4), some (.inl x2)] _ _ _
  refine mw_iload (pc' := 13) dX12_echoOf_11 rfl rfl ?_
  refine mw_bipush (pc' := 15) (v := (-2)) dX12_echoOf_13 rfl (by decide) ?_
  refine mw_icmp_eq (pc' := 18) (tgt := 24) dX12_echoOf_15 rfl (by decide) (fun c6 => ?_) (fun c6 => ?_)
  · replace K := K.1 c6
    refine mw_iconst (pc' := 25) (v := 0) dX12_echoOf_24 rfl (by decide) ?_
    refine mw_goto (tgt := 39) dX12_echoOf_25 (by decide) ?_
    exact mw_iret dX12_echoOf_39 rfl rfl K
  · replace K := K.2 c6
    refine mw_iload (pc' := 20) dX12_echoOf_18 rfl rfl ?_
    refine mw_iconst (pc' := 21) (v := 1) dX12_echoOf_20 rfl (by decide) ?_
    refine mw_icmp_ne (pc' := 24) (tgt := 28) dX12_echoOf_21 rfl (by decide) (fun c5 => ?_) (fun c5 => ?_)
    · replace K := K.1 c5
      refine mw_iconst (pc' := 29) (v := 2) dX12_echoOf_28 rfl (by decide) ?_
      refine mw_aload_n (pc' := 30) dX12_echoOf_29 rfl rfl ?_
      refine mw_iload_n (pc' := 31) dX12_echoOf_30 rfl rfl ?_
      refine mw_iload_n (pc' := 32) dX12_echoOf_31 rfl rfl ?_
      refine mw_iload_n (pc' := 33) dX12_echoOf_32 rfl rfl ?_
      refine mw_iload (pc' := 35) dX12_echoOf_33 rfl rfl ?_
      refine mw_callV (pc' := 38) (b' := (0, 0)) (b1 := b) (av := [.inl v1, .inl v2, .inl v3, .inl v4]) (rest := [.inl 2]) dX12_echoOf_35 rfl lkX12_202 rfl rfl (Nat.le_of_ble_eq_true rfl) ⟨Nat.le_of_eq (Nat.zero_add _), Nat.le_of_eq (Nat.zero_add _)⟩ (skT_47 hS) ?_
      refine mC_mono (fun r h3 hr => ?_) K
      obtain ⟨x4, rfl, hS, K⟩ := hr
      show mW _ _ _ _ _ _ [.inl x4, .inl 2] _ _
      refine mw_imul (pc' := 39) dX12_echoOf_38 rfl ?_
      exact mw_iret dX12_echoOf_39 rfl rfl K
    · replace K := K.2 c5
      refine mw_iconst (pc' := 25) (v := 0) dX12_echoOf_24 rfl (by decide) ?_
      refine mw_goto (tgt := 39) dX12_echoOf_25 (by decide) ?_
      exact mw_iret dX12_echoOf_39 rfl rfl K

set_option maxRecDepth 100000 in
set_option maxHeartbeats 4000000 in
theorem qX12_mayBeNone {G : mG} {d : Nat} {b : Nat × Nat} {h : mH} {Q : Option mV → mH → Prop} (v1 : Int32) (v2 : Int32) (v3 : Int32) (v4 : Int32) (hS : mSk h)
    (K : mC G kX12_sortTo (d + 2) (0, 0) [.inr (some 47), .inl v1, .inl v2, .inl v3, .inl v4] h (fun r h1 => ∃ x2, r = some (.inl x2) ∧ mSk h1 ∧ ∀ w3 : Int32, w3 = (if x2 = 0 then 0 else 1) → Q (some (.inl w3)) h1)) : mC G kX12_mayBeNone (d + 3) b [.inr (some 47), .inl v1, .inl v2, .inl v3, .inl v4] h Q := by
  refine mC_in rfl (Nat.le_of_ble_eq_true rfl) ?_
  show mW _ _ _ _ _ [some (.inr (some 47)), some (.inl v1), some (.inl v2), some (.inl v3), some (.inl v4)] _ _ _
  refine mw_aload_n (pc' := 1) dX12_mayBeNone_0 rfl rfl ?_
  refine mw_iload_n (pc' := 2) dX12_mayBeNone_1 rfl rfl ?_
  refine mw_iload_n (pc' := 3) dX12_mayBeNone_2 rfl rfl ?_
  refine mw_iload_n (pc' := 4) dX12_mayBeNone_3 rfl rfl ?_
  refine mw_iload (pc' := 6) dX12_mayBeNone_4 rfl rfl ?_
  refine mw_callV (pc' := 9) (b' := (0, 0)) (b1 := b) (av := [.inl v1, .inl v2, .inl v3, .inl v4]) (rest := []) dX12_mayBeNone_6 rfl lkX12_209 rfl rfl (Nat.le_of_ble_eq_true rfl) ⟨Nat.le_of_eq (Nat.zero_add _), Nat.le_of_eq (Nat.zero_add _)⟩ (skT_47 hS) ?_
  refine mC_mono (fun r h1 hr => ?_) K
  obtain ⟨x2, rfl, hS, K⟩ := hr
  show mW _ _ _ _ _ _ [.inl x2] _ _
  have J4 : ∀ w3 : Int32, w3 = (if x2 = 0 then 0 else 1) → mW G kX12_mayBeNone (d + 3) b 17 [some (.inr (some 47)), some (.inl v1), some (.inl v2), some (.inl v3), some (.inl v4)] ([.inl w3]) h1 Q := by
    intro w3 ew3
    replace K := K w3 ew3
    exact mw_iret dX12_mayBeNone_17 rfl (m_boolN (by rw [ew3]; exact (m_boolI m_bool0 m_bool1))) K
  refine mw_if_eq (pc' := 12) (tgt := 16) dX12_mayBeNone_9 rfl (by decide) (fun c5 => ?_) (fun c5 => ?_)
  · refine mw_iconst (pc' := 17) (v := 0) dX12_mayBeNone_16 rfl (by decide) ?_
    exact J4 _ (by rw [if_pos c5])
  · refine mw_iconst (pc' := 13) (v := 1) dX12_mayBeNone_12 rfl (by decide) ?_
    refine mw_goto (tgt := 17) dX12_mayBeNone_13 (by decide) ?_
    exact J4 _ (by rw [if_neg c5])

set_option maxRecDepth 100000 in
set_option maxHeartbeats 4000000 in
theorem qX12_facing {G : mG} {d : Nat} {b : Nat × Nat} {h : mH} {Q : Option mV → mH → Prop} (v1 : Int32) (v2 : Int32) (v3 : Int32) (v4 : Int32) (v5 : Int32) (hS : mSk h)
    (K : mC G kX12_isCoast (d + 3) (0, 0) [.inr (some 47), .inl v1] h (fun r h1 => ∃ x2, r = some (.inl x2) ∧ mSk h1 ∧ ((x2 = 0 → Q (some (.inl (-1))) h1) ∧ (¬ x2 = 0 → (((f_X12_isCell v2 v3) = 0 → Q (some (.inl (-1))) h1) ∧ (¬ (f_X12_isCell v2 v3) = 0 → (((f_X12_isDirection v4) = 0 → Q (some (.inl (-1))) h1) ∧ (¬ (f_X12_isDirection v4) = 0 → ((¬ (f_X12_in v5 0 2) = 0 → mC G kX12_isLandAt (d + 3) (0, 0) [.inr (some 47), .inl v1, .inl v2, .inl v3] h1 (fun r h3 => ∃ x4, r = some (.inl x4) ∧ mSk h3 ∧ ((x4 = 0 → ((¬ v5 = 0 → ((¬ v5 = 1 → mC G kX12_echoOf (d + 3) (0, 0) [.inr (some 47), .inl v1, .inl v2, .inl v3, .inl v4] h3 (fun r h5 => ∃ x6, r = some (.inl x6) ∧ mSk h5 ∧ Q (some (.inl x6)) h5)) ∧ (v5 = 1 → mC G kX12_sortTo (d + 3) (0, 0) [.inr (some 47), .inl v1, .inl v2, .inl v3, .inl v4] h3 (fun r h7 => ∃ x8, r = some (.inl x8) ∧ mSk h7 ∧ Q (some (.inl x8)) h7)))) ∧ (v5 = 0 → mC G kX12_stepsTo (d + 3) (0, 0) [.inr (some 47), .inl v1, .inl v2, .inl v3, .inl v4] h3 (fun r h10 => ∃ x11, r = some (.inl x11) ∧ mSk h10 ∧ Q (some (.inl x11)) h10)))) ∧ (¬ x4 = 0 → Q (some (.inl (-3))) h3)))) ∧ ((f_X12_in v5 0 2) = 0 → Q (some (.inl (-1))) h1)))))))))) : mC G kX12_facing (d + 4) b [.inr (some 47), .inl v1, .inl v2, .inl v3, .inl v4, .inl v5] h Q := by
  refine mC_in rfl (Nat.le_of_ble_eq_true rfl) ?_
  show mW _ _ _ _ _ [some (.inr (some 47)), some (.inl v1), some (.inl v2), some (.inl v3), some (.inl v4), some (.inl v5)] _ _ _
  refine mw_aload_n (pc' := 1) dX12_facing_0 rfl rfl ?_
  refine mw_iload_n (pc' := 2) dX12_facing_1 rfl rfl ?_
  refine mw_callV (pc' := 5) (b' := (0, 0)) (b1 := b) (av := [.inl v1]) (rest := []) dX12_facing_2 rfl lkX12_187 rfl rfl (Nat.le_of_ble_eq_true rfl) ⟨Nat.le_of_eq (Nat.zero_add _), Nat.le_of_eq (Nat.zero_add _)⟩ (skT_47 hS) ?_
  refine mC_mono (fun r h1 hr => ?_) K
  obtain ⟨x2, rfl, hS, K⟩ := hr
  show mW _ _ _ _ _ _ [.inl x2] _ _
  refine mw_if_eq (pc' := 8) (tgt := 34) dX12_facing_5 rfl (by decide) (fun c17 => ?_) (fun c17 => ?_)
  · replace K := K.1 c17
    refine mw_iconst (pc' := 35) (v := (-1)) dX12_facing_34 rfl (by decide) ?_
    exact mw_iret dX12_facing_35 rfl rfl K
  · replace K := K.2 c17
    refine mw_iload_n (pc' := 9) dX12_facing_8 rfl rfl ?_
    refine mw_iload_n (pc' := 10) dX12_facing_9 rfl rfl ?_
    refine mw_callS (pc' := 13) (b' := (0, 0)) (b1 := b) (av := [.inl v2, .inl v3]) (rest := []) dX12_facing_10 rfl lkX12_190 rfl rfl (Nat.le_of_ble_eq_true rfl) ⟨Nat.le_of_eq (Nat.zero_add _), Nat.le_of_eq (Nat.zero_add _)⟩ ?_
    refine pX12_isCell ?_
    refine mw_if_eq (pc' := 16) (tgt := 34) dX12_facing_13 rfl (by decide) (fun c16 => ?_) (fun c16 => ?_)
    · replace K := K.1 c16
      refine mw_iconst (pc' := 35) (v := (-1)) dX12_facing_34 rfl (by decide) ?_
      exact mw_iret dX12_facing_35 rfl rfl K
    · replace K := K.2 c16
      refine mw_iload (pc' := 18) dX12_facing_16 rfl rfl ?_
      refine mw_callS (pc' := 21) (b' := (0, 0)) (b1 := b) (av := [.inl v4]) (rest := []) dX12_facing_18 rfl lkX12_212 rfl rfl (Nat.le_of_ble_eq_true rfl) ⟨Nat.le_of_eq (Nat.zero_add _), Nat.le_of_eq (Nat.zero_add _)⟩ ?_
      refine pX12_isDirection ?_
      refine mw_if_eq (pc' := 24) (tgt := 34) dX12_facing_21 rfl (by decide) (fun c15 => ?_) (fun c15 => ?_)
      · replace K := K.1 c15
        refine mw_iconst (pc' := 35) (v := (-1)) dX12_facing_34 rfl (by decide) ?_
        exact mw_iret dX12_facing_35 rfl rfl K
      · replace K := K.2 c15
        refine mw_iload (pc' := 26) dX12_facing_24 rfl rfl ?_
        refine mw_iconst (pc' := 27) (v := 0) dX12_facing_26 rfl (by decide) ?_
        refine mw_iconst (pc' := 28) (v := 2) dX12_facing_27 rfl (by decide) ?_
        refine mw_callS (pc' := 31) (b' := (0, 0)) (b1 := b) (av := [.inl v5, .inl 0, .inl 2]) (rest := []) dX12_facing_28 rfl lkX12_173 rfl rfl (Nat.le_of_ble_eq_true rfl) ⟨Nat.le_of_eq (Nat.zero_add _), Nat.le_of_eq (Nat.zero_add _)⟩ ?_
        refine pX12_in ?_
        refine mw_if_ne (pc' := 34) (tgt := 36) dX12_facing_31 rfl (by decide) (fun c14 => ?_) (fun c14 => ?_)
        · replace K := K.1 c14
          refine mw_aload_n (pc' := 37) dX12_facing_36 rfl rfl ?_
          refine mw_iload_n (pc' := 38) dX12_facing_37 rfl rfl ?_
          refine mw_iload_n (pc' := 39) dX12_facing_38 rfl rfl ?_
          refine mw_iload_n (pc' := 40) dX12_facing_39 rfl rfl ?_
          refine mw_callV (pc' := 43) (b' := (0, 0)) (b1 := b) (av := [.inl v1, .inl v2, .inl v3]) (rest := []) dX12_facing_40 rfl lkX12_193 rfl rfl (Nat.le_of_ble_eq_true rfl) ⟨Nat.le_of_eq (Nat.zero_add _), Nat.le_of_eq (Nat.zero_add _)⟩ (skT_47 hS) ?_
          refine mC_mono (fun r h3 hr => ?_) K
          obtain ⟨x4, rfl, hS, K⟩ := hr
          show mW _ _ _ _ _ _ [.inl x4] _ _
          refine mw_if_eq (pc' := 46) (tgt := 49) dX12_facing_43 rfl (by decide) (fun c13 => ?_) (fun c13 => ?_)
          · replace K := K.1 c13
            refine mw_iload (pc' := 51) dX12_facing_49 rfl rfl ?_
            refine mw_if_ne (pc' := 54) (tgt := 66) dX12_facing_51 rfl (by decide) (fun c12 => ?_) (fun c12 => ?_)
            · replace K := K.1 c12
              refine mw_iload (pc' := 68) dX12_facing_66 rfl rfl ?_
              refine mw_iconst (pc' := 69) (v := 1) dX12_facing_68 rfl (by decide) ?_
              refine mw_icmp_ne (pc' := 72) (tgt := 84) dX12_facing_69 rfl (by decide) (fun c9 => ?_) (fun c9 => ?_)
              · replace K := K.1 c9
                refine mw_aload_n (pc' := 85) dX12_facing_84 rfl rfl ?_
                refine mw_iload_n (pc' := 86) dX12_facing_85 rfl rfl ?_
                refine mw_iload_n (pc' := 87) dX12_facing_86 rfl rfl ?_
                refine mw_iload_n (pc' := 88) dX12_facing_87 rfl rfl ?_
                refine mw_iload (pc' := 90) dX12_facing_88 rfl rfl ?_
                refine mw_callV (pc' := 93) (b' := (0, 0)) (b1 := b) (av := [.inl v1, .inl v2, .inl v3, .inl v4]) (rest := []) dX12_facing_90 rfl lkX12_215 rfl rfl (Nat.le_of_ble_eq_true rfl) ⟨Nat.le_of_eq (Nat.zero_add _), Nat.le_of_eq (Nat.zero_add _)⟩ (skT_47 hS) ?_
                refine mC_mono (fun r h5 hr => ?_) K
                obtain ⟨x6, rfl, hS, K⟩ := hr
                show mW _ _ _ _ _ _ [.inl x6] _ _
                exact mw_iret dX12_facing_93 rfl rfl K
              · replace K := K.2 c9
                refine mw_aload_n (pc' := 73) dX12_facing_72 rfl rfl ?_
                refine mw_iload_n (pc' := 74) dX12_facing_73 rfl rfl ?_
                refine mw_iload_n (pc' := 75) dX12_facing_74 rfl rfl ?_
                refine mw_iload_n (pc' := 76) dX12_facing_75 rfl rfl ?_
                refine mw_iload (pc' := 78) dX12_facing_76 rfl rfl ?_
                refine mw_callV (pc' := 81) (b' := (0, 0)) (b1 := b) (av := [.inl v1, .inl v2, .inl v3, .inl v4]) (rest := []) dX12_facing_78 rfl lkX12_209 rfl rfl (Nat.le_of_ble_eq_true rfl) ⟨Nat.le_of_eq (Nat.zero_add _), Nat.le_of_eq (Nat.zero_add _)⟩ (skT_47 hS) ?_
                refine mC_mono (fun r h7 hr => ?_) K
                obtain ⟨x8, rfl, hS, K⟩ := hr
                show mW _ _ _ _ _ _ [.inl x8] _ _
                refine mw_goto (tgt := 93) dX12_facing_81 (by decide) ?_
                exact mw_iret dX12_facing_93 rfl rfl K
            · replace K := K.2 c12
              refine mw_aload_n (pc' := 55) dX12_facing_54 rfl rfl ?_
              refine mw_iload_n (pc' := 56) dX12_facing_55 rfl rfl ?_
              refine mw_iload_n (pc' := 57) dX12_facing_56 rfl rfl ?_
              refine mw_iload_n (pc' := 58) dX12_facing_57 rfl rfl ?_
              refine mw_iload (pc' := 60) dX12_facing_58 rfl rfl ?_
              refine mw_callV (pc' := 63) (b' := (0, 0)) (b1 := b) (av := [.inl v1, .inl v2, .inl v3, .inl v4]) (rest := []) dX12_facing_60 rfl lkX12_202 rfl rfl (Nat.le_of_ble_eq_true rfl) ⟨Nat.le_of_eq (Nat.zero_add _), Nat.le_of_eq (Nat.zero_add _)⟩ (skT_47 hS) ?_
              refine mC_mono (fun r h10 hr => ?_) K
              obtain ⟨x11, rfl, hS, K⟩ := hr
              show mW _ _ _ _ _ _ [.inl x11] _ _
              refine mw_goto (tgt := 93) dX12_facing_63 (by decide) ?_
              exact mw_iret dX12_facing_93 rfl rfl K
          · replace K := K.2 c13
            refine mw_bipush (pc' := 48) (v := (-3)) dX12_facing_46 rfl (by decide) ?_
            exact mw_iret dX12_facing_48 rfl rfl K
        · replace K := K.2 c14
          refine mw_iconst (pc' := 35) (v := (-1)) dX12_facing_34 rfl (by decide) ?_
          exact mw_iret dX12_facing_35 rfl rfl K

set_option maxRecDepth 100000 in
set_option maxHeartbeats 4000000 in
theorem qX12_isSounder {G : mG} {d : Nat} {b : Nat × Nat} {h : mH} {Q : Option mV → mH → Prop} (v1 : Int32) (hS : mSk h)
    (K : ((v1 < 0 → Q (some (.inl 0)) h) ∧ (¬ (v1 < 0) → ∀ w1 : Int32, w1 = (if (mI h 47 6) ≤ v1 then 0 else 1) → Q (some (.inl w1)) h))) : mC G kX12_isSounder d b [.inr (some 47), .inl v1] h Q := by
  refine mC_in rfl (Nat.le_of_ble_eq_true rfl) ?_
  show mW _ _ _ _ _ [some (.inr (some 47)), some (.inl v1)] _ _ _
  refine mw_iload_n (pc' := 1) dX12_isSounder_0 rfl rfl ?_
  refine mw_if_lt (pc' := 4) (tgt := 16) dX12_isSounder_1 rfl (by decide) (fun c4 => ?_) (fun c4 => ?_)
  · replace K := K.1 c4
    refine mw_iconst (pc' := 17) (v := 0) dX12_isSounder_16 rfl (by decide) ?_
    exact mw_iret dX12_isSounder_17 rfl (by decide) K
  · replace K := K.2 c4
    refine mw_iload_n (pc' := 5) dX12_isSounder_4 rfl rfl ?_
    refine mw_aload_n (pc' := 6) dX12_isSounder_5 rfl rfl ?_
    refine mw_getI (pc' := 9) dX12_isSounder_6 rfl flX12_218 rfl (skT_47 hS) ?_
    have J2 : ∀ w1 : Int32, w1 = (if (mI h 47 6) ≤ v1 then 0 else 1) → mW G kX12_isSounder d b 17 [some (.inr (some 47)), some (.inl v1)] ([.inl w1]) h Q := by
      intro w1 ew1
      replace K := K w1 ew1
      exact mw_iret dX12_isSounder_17 rfl (m_boolN (by rw [ew1]; exact (m_boolI m_bool0 m_bool1))) K
    refine mw_icmp_ge (pc' := 12) (tgt := 16) dX12_isSounder_9 rfl (by decide) (fun c3 => ?_) (fun c3 => ?_)
    · refine mw_iconst (pc' := 17) (v := 0) dX12_isSounder_16 rfl (by decide) ?_
      exact J2 _ (by rw [if_pos c3])
    · refine mw_iconst (pc' := 13) (v := 1) dX12_isSounder_12 rfl (by decide) ?_
      refine mw_goto (tgt := 17) dX12_isSounder_13 (by decide) ?_
      exact J2 _ (by rw [if_neg c3])

set_option maxRecDepth 100000 in
set_option maxHeartbeats 4000000 in
theorem qX12_sounder {G : mG} {d : Nat} {b : Nat × Nat} {h : mH} {Q : Option mV → mH → Prop} (v1 : Int32) (v2 : Int32) (v3 : Int32) (v4 : Int32) (hS : mSk h)
    (K : (((f_X12_isCell v1 v2) = 0 → Q (some (.inl (-1))) h) ∧ (¬ (f_X12_isCell v1 v2) = 0 → (((f_X12_in v3 0 3) = 0 → Q (some (.inl (-1))) h) ∧ (¬ (f_X12_in v3 0 3) = 0 → (((f_X12_in v4 0 99) = 0 → Q (some (.inl (-1))) h) ∧ (¬ (f_X12_in v4 0 99) = 0 → ((¬ (mI h 47 6) = 6 → vp_in (mI h 47 6) 6 ∧ ∀ h2, h2 = mSI h 53 (mI h 47 6).toNatClampNeg v1 → vp_in (mI h2 47 6) 6 ∧ ∀ h4, h4 = mSI h2 54 (mI h2 47 6).toNatClampNeg v2 → vp_in (mI h4 47 6) 6 ∧ ∀ h6, h6 = mSI h4 55 (mI h4 47 6).toNatClampNeg v3 → vp_in (mI h6 47 6) 6 ∧ ∀ h8, h8 = mSI h6 56 (mI h6 47 6).toNatClampNeg v4 → ∀ h9, h9 = mSI h8 47 6 ((mI h8 47 6) + 1) → Q (some (.inl ((mI h9 47 6) - 1))) h9) ∧ ((mI h 47 6) = 6 → Q (some (.inl (-1))) h))))))))) : mC G kX12_sounder (d + 1) b [.inr (some 47), .inl v1, .inl v2, .inl v3, .inl v4] h Q := by
  refine mC_in rfl (Nat.le_of_ble_eq_true rfl) ?_
  show mW _ _ _ _ _ [some (.inr (some 47)), some (.inl v1), some (.inl v2), some (.inl v3), some (.inl v4)] _ _ _
  refine mw_iload_n (pc' := 1) dX12_sounder_0 rfl rfl ?_
  refine mw_iload_n (pc' := 2) dX12_sounder_1 rfl rfl ?_
  refine mw_callS (pc' := 5) (b' := (0, 0)) (b1 := b) (av := [.inl v1, .inl v2]) (rest := []) dX12_sounder_2 rfl lkX12_190 rfl rfl (Nat.le_of_ble_eq_true rfl) ⟨Nat.le_of_eq (Nat.zero_add _), Nat.le_of_eq (Nat.zero_add _)⟩ ?_
  refine pX12_isCell ?_
  refine mw_if_eq (pc' := 8) (tgt := 37) dX12_sounder_5 rfl (by decide) (fun c13 => ?_) (fun c13 => ?_)
  · replace K := K.1 c13
    refine mw_iconst (pc' := 38) (v := (-1)) dX12_sounder_37 rfl (by decide) ?_
    exact mw_iret dX12_sounder_38 rfl rfl K
  · replace K := K.2 c13
    refine mw_iload_n (pc' := 9) dX12_sounder_8 rfl rfl ?_
    refine mw_iconst (pc' := 10) (v := 0) dX12_sounder_9 rfl (by decide) ?_
    refine mw_iconst (pc' := 11) (v := 3) dX12_sounder_10 rfl (by decide) ?_
    refine mw_callS (pc' := 14) (b' := (0, 0)) (b1 := b) (av := [.inl v3, .inl 0, .inl 3]) (rest := []) dX12_sounder_11 rfl lkX12_173 rfl rfl (Nat.le_of_ble_eq_true rfl) ⟨Nat.le_of_eq (Nat.zero_add _), Nat.le_of_eq (Nat.zero_add _)⟩ ?_
    refine pX12_in ?_
    refine mw_if_eq (pc' := 17) (tgt := 37) dX12_sounder_14 rfl (by decide) (fun c12 => ?_) (fun c12 => ?_)
    · replace K := K.1 c12
      refine mw_iconst (pc' := 38) (v := (-1)) dX12_sounder_37 rfl (by decide) ?_
      exact mw_iret dX12_sounder_38 rfl rfl K
    · replace K := K.2 c12
      refine mw_iload (pc' := 19) dX12_sounder_17 rfl rfl ?_
      refine mw_iconst (pc' := 20) (v := 0) dX12_sounder_19 rfl (by decide) ?_
      refine mw_bipush (pc' := 22) (v := 99) dX12_sounder_20 rfl (by decide) ?_
      refine mw_callS (pc' := 25) (b' := (0, 0)) (b1 := b) (av := [.inl v4, .inl 0, .inl 99]) (rest := []) dX12_sounder_22 rfl lkX12_173 rfl rfl (Nat.le_of_ble_eq_true rfl) ⟨Nat.le_of_eq (Nat.zero_add _), Nat.le_of_eq (Nat.zero_add _)⟩ ?_
      refine pX12_in ?_
      refine mw_if_eq (pc' := 28) (tgt := 37) dX12_sounder_25 rfl (by decide) (fun c11 => ?_) (fun c11 => ?_)
      · replace K := K.1 c11
        refine mw_iconst (pc' := 38) (v := (-1)) dX12_sounder_37 rfl (by decide) ?_
        exact mw_iret dX12_sounder_38 rfl rfl K
      · replace K := K.2 c11
        refine mw_aload_n (pc' := 29) dX12_sounder_28 rfl rfl ?_
        refine mw_getI (pc' := 32) dX12_sounder_29 rfl flX12_218 rfl (skT_47 hS) ?_
        refine mw_bipush (pc' := 34) (v := 6) dX12_sounder_32 rfl (by decide) ?_
        refine mw_icmp_ne (pc' := 37) (tgt := 39) dX12_sounder_34 rfl (by decide) (fun c10 => ?_) (fun c10 => ?_)
        · replace K := K.1 c10
          refine mw_aload_n (pc' := 40) dX12_sounder_39 rfl rfl ?_
          refine mw_getR (pc' := 43) dX12_sounder_40 rfl flX12_26 rfl (skT_47 hS) ?_
          rw [skR_47_7 hS]
          refine mw_aload_n (pc' := 44) dX12_sounder_43 rfl rfl ?_
          refine mw_getI (pc' := 47) dX12_sounder_44 rfl flX12_218 rfl (skT_47 hS) ?_
          refine mw_iload_n (pc' := 48) dX12_sounder_47 rfl rfl ?_
          obtain ⟨o1, K⟩ := K
          refine mw_iastK (pc' := 49) dX12_sounder_48 rfl (skT_53 hS) (skL_53 hS) o1 hS (fun h2 eh2 hS => ?_)
          replace K := K h2 eh2
          refine mw_aload_n (pc' := 50) dX12_sounder_49 rfl rfl ?_
          refine mw_getR (pc' := 53) dX12_sounder_50 rfl flX12_29 rfl (skT_47 hS) ?_
          rw [skR_47_8 hS]
          refine mw_aload_n (pc' := 54) dX12_sounder_53 rfl rfl ?_
          refine mw_getI (pc' := 57) dX12_sounder_54 rfl flX12_218 rfl (skT_47 hS) ?_
          refine mw_iload_n (pc' := 58) dX12_sounder_57 rfl rfl ?_
          obtain ⟨o3, K⟩ := K
          refine mw_iastK (pc' := 59) dX12_sounder_58 rfl (skT_54 hS) (skL_54 hS) o3 hS (fun h4 eh4 hS => ?_)
          replace K := K h4 eh4
          refine mw_aload_n (pc' := 60) dX12_sounder_59 rfl rfl ?_
          refine mw_getR (pc' := 63) dX12_sounder_60 rfl flX12_32 rfl (skT_47 hS) ?_
          rw [skR_47_9 hS]
          refine mw_aload_n (pc' := 64) dX12_sounder_63 rfl rfl ?_
          refine mw_getI (pc' := 67) dX12_sounder_64 rfl flX12_218 rfl (skT_47 hS) ?_
          refine mw_iload_n (pc' := 68) dX12_sounder_67 rfl rfl ?_
          obtain ⟨o5, K⟩ := K
          refine mw_iastK (pc' := 69) dX12_sounder_68 rfl (skT_55 hS) (skL_55 hS) o5 hS (fun h6 eh6 hS => ?_)
          replace K := K h6 eh6
          refine mw_aload_n (pc' := 70) dX12_sounder_69 rfl rfl ?_
          refine mw_getR (pc' := 73) dX12_sounder_70 rfl flX12_35 rfl (skT_47 hS) ?_
          rw [skR_47_10 hS]
          refine mw_aload_n (pc' := 74) dX12_sounder_73 rfl rfl ?_
          refine mw_getI (pc' := 77) dX12_sounder_74 rfl flX12_218 rfl (skT_47 hS) ?_
          refine mw_iload (pc' := 79) dX12_sounder_77 rfl rfl ?_
          obtain ⟨o7, K⟩ := K
          refine mw_iastK (pc' := 80) dX12_sounder_79 rfl (skT_56 hS) (skL_56 hS) o7 hS (fun h8 eh8 hS => ?_)
          replace K := K h8 eh8
          refine mw_aload_n (pc' := 81) dX12_sounder_80 rfl rfl ?_
          refine mw_aload_n (pc' := 82) dX12_sounder_81 rfl rfl ?_
          refine mw_getI (pc' := 85) dX12_sounder_82 rfl flX12_218 rfl (skT_47 hS) ?_
          refine mw_iconst (pc' := 86) (v := 1) dX12_sounder_85 rfl (by decide) ?_
          refine mw_iadd (pc' := 87) dX12_sounder_86 rfl ?_
          refine mw_putIK (pc' := 90) dX12_sounder_87 rfl flX12_218 rfl (Or.inl rfl) ⟨rfl, rfl⟩ (skT_47 hS) hS (fun h9 eh9 hS => ?_)
          replace K := K h9 eh9
          refine mw_aload_n (pc' := 91) dX12_sounder_90 rfl rfl ?_
          refine mw_getI (pc' := 94) dX12_sounder_91 rfl flX12_218 rfl (skT_47 hS) ?_
          refine mw_iconst (pc' := 95) (v := 1) dX12_sounder_94 rfl (by decide) ?_
          refine mw_isub (pc' := 96) dX12_sounder_95 rfl ?_
          exact mw_iret dX12_sounder_96 rfl rfl K
        · replace K := K.2 c10
          refine mw_iconst (pc' := 38) (v := (-1)) dX12_sounder_37 rfl (by decide) ?_
          exact mw_iret dX12_sounder_38 rfl rfl K

set_option maxRecDepth 100000 in
set_option maxHeartbeats 4000000 in
theorem qX12_types {G : mG} {d : Nat} {b : Nat × Nat} {h : mH} {Q : Option mV → mH → Prop} (v1 : Int32) (hS : mSk h)
    (K : mW G kX12_types d b 2 [some (.inr (some 47)), some (.inl v1), some (.inl 3)] [] h Q) : mC G kX12_types d b [.inr (some 47), .inl v1] h Q := by
  refine mC_in rfl (Nat.le_of_ble_eq_true rfl) ?_
  show mW _ _ _ _ _ [some (.inr (some 47)), some (.inl v1), none] _ _ _
  refine mw_iconst (pc' := 1) (v := 3) dX12_types_0 rfl (by decide) ?_
  refine mw_istore_n (pc' := 2) dX12_types_1 rfl (by decide) ?_
  show mW _ _ _ _ _ [some (.inr (some 47)), some (.inl v1), some (.inl 3)] _ _ _
  exact K

set_option maxRecDepth 100000 in
set_option maxHeartbeats 4000000 in
theorem qX12_types_2 {G : mG} {d : Nat} {b : Nat × Nat} {h : mH} {Q : Option mV → mH → Prop} (v1 : Int32) (v2 : Int32) (hS : mSk h)
    (K : ((v2 < 0 → Q none h) ∧ (¬ (v2 < 0) → vp_in (mI h 47 12) 220 ∧ ∀ h2, h2 = mSI h 57 (mI h 47 12).toNatClampNeg (((m_shr v1 (8 * v2)).toInt8.toInt32).toInt8.toInt32) → ∀ h3, h3 = mSI h2 47 12 ((mI h2 47 12) + 1) → mW G kX12_types d b 2 [some (.inr (some 47)), some (.inl v1), some (.inl (v2 + (-1)))] [] h3 Q))) : mW G kX12_types d b 2 [some (.inr (some 47)), some (.inl v1), some (.inl v2)] [] h Q := by
  refine mw_iload_n (pc' := 3) dX12_types_2 rfl rfl ?_
  refine mw_if_lt (pc' := 6) (tgt := 38) dX12_types_3 rfl (by decide) (fun c4 => ?_) (fun c4 => ?_)
  · replace K := K.1 c4
    exact mw_ret dX12_types_38 rfl K
  · replace K := K.2 c4
    refine mw_aload_n (pc' := 7) dX12_types_6 rfl rfl ?_
    refine mw_getR (pc' := 10) dX12_types_7 rfl flX12_38 rfl (skT_47 hS) ?_
    rw [skR_47_11 hS]
    refine mw_aload_n (pc' := 11) dX12_types_10 rfl rfl ?_
    refine mw_getI (pc' := 14) dX12_types_11 rfl flX12_176 rfl (skT_47 hS) ?_
    refine mw_iload_n (pc' := 15) dX12_types_14 rfl rfl ?_
    refine mw_bipush (pc' := 17) (v := 8) dX12_types_15 rfl (by decide) ?_
    refine mw_iload_n (pc' := 18) dX12_types_17 rfl rfl ?_
    refine mw_imul (pc' := 19) dX12_types_18 rfl ?_
    refine mw_ishrM (pc' := 20) dX12_types_19 rfl ?_
    refine mw_i2b (pc' := 21) dX12_types_20 rfl ?_
    obtain ⟨o1, K⟩ := K
    refine mw_yastK (pc' := 22) dX12_types_21 rfl (skT_57 hS) (skL_57 hS) o1 hS (fun h2 eh2 hS => ?_)
    replace K := K h2 eh2
    refine mw_aload_n (pc' := 23) dX12_types_22 rfl rfl ?_
    refine mw_aload_n (pc' := 24) dX12_types_23 rfl rfl ?_
    refine mw_getI (pc' := 27) dX12_types_24 rfl flX12_176 rfl (skT_47 hS) ?_
    refine mw_iconst (pc' := 28) (v := 1) dX12_types_27 rfl (by decide) ?_
    refine mw_iadd (pc' := 29) dX12_types_28 rfl ?_
    refine mw_putIK (pc' := 32) dX12_types_29 rfl flX12_176 rfl (Or.inl rfl) ⟨rfl, rfl⟩ (skT_47 hS) hS (fun h3 eh3 hS => ?_)
    replace K := K h3 eh3
    refine mw_iinc (pc' := 35) (v := v2 + (-1)) dX12_types_32 rfl (by decide) rfl rfl ?_
    show mW _ _ _ _ _ [some (.inr (some 47)), some (.inl v1), some (.inl (v2 + (-1)))] _ _ _
    refine mw_goto (tgt := 2) dX12_types_35 (by decide) ?_
    exact K

set_option maxRecDepth 100000 in
set_option maxHeartbeats 4000000 in
theorem qX12_feed {G : mG} {d : Nat} {b : Nat × Nat} {h : mH} {Q : Option mV → mH → Prop} (v1 : Int32) (v2 : Int32) (v3 : Int32) (v4 : Int32) (v5 : Int32) (hS : mSk h)
    (K : ((((mI h 47 12) + 20) ≤ 220 → mC G kX12_types d (0, 0) [.inr (some 47), .inl v1] h (fun r h1 => r = none ∧ mSk h1 ∧ mC G kX12_types d (0, 0) [.inr (some 47), .inl v2] h1 (fun r h2 => r = none ∧ mSk h2 ∧ mC G kX12_types d (0, 0) [.inr (some 47), .inl v3] h2 (fun r h3 => r = none ∧ mSk h3 ∧ mC G kX12_types d (0, 0) [.inr (some 47), .inl v4] h3 (fun r h4 => r = none ∧ mSk h4 ∧ mC G kX12_types d (0, 0) [.inr (some 47), .inl v5] h4 (fun r h5 => r = none ∧ mSk h5 ∧ Q (some (.inl (mI h5 47 12))) h5)))))) ∧ (¬ (((mI h 47 12) + 20) ≤ 220) → Q (some (.inl (-1))) h))) : mC G kX12_feed (d + 1) b [.inr (some 47), .inl v1, .inl v2, .inl v3, .inl v4, .inl v5] h Q := by
  refine mC_in rfl (Nat.le_of_ble_eq_true rfl) ?_
  show mW _ _ _ _ _ [some (.inr (some 47)), some (.inl v1), some (.inl v2), some (.inl v3), some (.inl v4), some (.inl v5)] _ _ _
  refine mw_aload_n (pc' := 1) dX12_feed_0 rfl rfl ?_
  refine mw_getI (pc' := 4) dX12_feed_1 rfl flX12_176 rfl (skT_47 hS) ?_
  refine mw_bipush (pc' := 6) (v := 20) dX12_feed_4 rfl (by decide) ?_
  refine mw_iadd (pc' := 7) dX12_feed_6 rfl ?_
  refine mw_sipush (pc' := 10) (v := 220) dX12_feed_7 rfl (by decide) ?_
  refine mw_icmp_le (pc' := 13) (tgt := 15) dX12_feed_10 rfl (by decide) (fun c6 => ?_) (fun c6 => ?_)
  · replace K := K.1 c6
    refine mw_aload_n (pc' := 16) dX12_feed_15 rfl rfl ?_
    refine mw_iload_n (pc' := 17) dX12_feed_16 rfl rfl ?_
    refine mw_callV (pc' := 20) (b' := (0, 0)) (b1 := b) (av := [.inl v1]) (rest := []) dX12_feed_17 rfl lkX12_221 rfl rfl (Nat.le_of_ble_eq_true rfl) ⟨Nat.le_of_eq (Nat.zero_add _), Nat.le_of_eq (Nat.zero_add _)⟩ (skT_47 hS) ?_
    refine mC_mono (fun r h1 hr => ?_) K
    obtain ⟨rfl, hS, K⟩ := hr
    show mW _ _ _ _ _ _ [] _ _
    refine mw_aload_n (pc' := 21) dX12_feed_20 rfl rfl ?_
    refine mw_iload_n (pc' := 22) dX12_feed_21 rfl rfl ?_
    refine mw_callV (pc' := 25) (b' := (0, 0)) (b1 := b) (av := [.inl v2]) (rest := []) dX12_feed_22 rfl lkX12_221 rfl rfl (Nat.le_of_ble_eq_true rfl) ⟨Nat.le_of_eq (Nat.zero_add _), Nat.le_of_eq (Nat.zero_add _)⟩ (skT_47 hS) ?_
    refine mC_mono (fun r h2 hr => ?_) K
    obtain ⟨rfl, hS, K⟩ := hr
    show mW _ _ _ _ _ _ [] _ _
    refine mw_aload_n (pc' := 26) dX12_feed_25 rfl rfl ?_
    refine mw_iload_n (pc' := 27) dX12_feed_26 rfl rfl ?_
    refine mw_callV (pc' := 30) (b' := (0, 0)) (b1 := b) (av := [.inl v3]) (rest := []) dX12_feed_27 rfl lkX12_221 rfl rfl (Nat.le_of_ble_eq_true rfl) ⟨Nat.le_of_eq (Nat.zero_add _), Nat.le_of_eq (Nat.zero_add _)⟩ (skT_47 hS) ?_
    refine mC_mono (fun r h3 hr => ?_) K
    obtain ⟨rfl, hS, K⟩ := hr
    show mW _ _ _ _ _ _ [] _ _
    refine mw_aload_n (pc' := 31) dX12_feed_30 rfl rfl ?_
    refine mw_iload (pc' := 33) dX12_feed_31 rfl rfl ?_
    refine mw_callV (pc' := 36) (b' := (0, 0)) (b1 := b) (av := [.inl v4]) (rest := []) dX12_feed_33 rfl lkX12_221 rfl rfl (Nat.le_of_ble_eq_true rfl) ⟨Nat.le_of_eq (Nat.zero_add _), Nat.le_of_eq (Nat.zero_add _)⟩ (skT_47 hS) ?_
    refine mC_mono (fun r h4 hr => ?_) K
    obtain ⟨rfl, hS, K⟩ := hr
    show mW _ _ _ _ _ _ [] _ _
    refine mw_aload_n (pc' := 37) dX12_feed_36 rfl rfl ?_
    refine mw_iload (pc' := 39) dX12_feed_37 rfl rfl ?_
    refine mw_callV (pc' := 42) (b' := (0, 0)) (b1 := b) (av := [.inl v5]) (rest := []) dX12_feed_39 rfl lkX12_221 rfl rfl (Nat.le_of_ble_eq_true rfl) ⟨Nat.le_of_eq (Nat.zero_add _), Nat.le_of_eq (Nat.zero_add _)⟩ (skT_47 hS) ?_
    refine mC_mono (fun r h5 hr => ?_) K
    obtain ⟨rfl, hS, K⟩ := hr
    show mW _ _ _ _ _ _ [] _ _
    refine mw_aload_n (pc' := 43) dX12_feed_42 rfl rfl ?_
    refine mw_getI (pc' := 46) dX12_feed_43 rfl flX12_176 rfl (skT_47 hS) ?_
    exact mw_iret dX12_feed_46 rfl rfl K
  · replace K := K.2 c6
    refine mw_iconst (pc' := 14) (v := (-1)) dX12_feed_13 rfl (by decide) ?_
    exact mw_iret dX12_feed_14 rfl rfl K

set_option maxRecDepth 100000 in
set_option maxHeartbeats 4000000 in
theorem qX12_here {G : mG} {d : Nat} {b : Nat × Nat} {h : mH} {Q : Option mV → mH → Prop}  (hS : mSk h)
    (K : (((mI h 47 14) ≤ (mI h 47 13) → Q (some (.inl (-1))) h) ∧ (¬ ((mI h 47 14) ≤ (mI h 47 13)) → vp_in (mI h 47 13) 220 ∧ Q (some (.inl ((mI h 57 (mI h 47 13).toNatClampNeg) &&& 255))) h))) : mC G kX12_here d b [.inr (some 47)] h Q := by
  refine mC_in rfl (Nat.le_of_ble_eq_true rfl) ?_
  show mW _ _ _ _ _ [some (.inr (some 47))] _ _ _
  refine mw_aload_n (pc' := 1) dX12_here_0 rfl rfl ?_
  refine mw_getI (pc' := 4) dX12_here_1 rfl flX12_224 rfl (skT_47 hS) ?_
  refine mw_aload_n (pc' := 5) dX12_here_4 rfl rfl ?_
  refine mw_getI (pc' := 8) dX12_here_5 rfl flX12_227 rfl (skT_47 hS) ?_
  refine mw_icmp_ge (pc' := 11) (tgt := 27) dX12_here_8 rfl (by decide) (fun c2 => ?_) (fun c2 => ?_)
  · replace K := K.1 c2
    refine mw_iconst (pc' := 28) (v := (-1)) dX12_here_27 rfl (by decide) ?_
    exact mw_iret dX12_here_28 rfl rfl K
  · replace K := K.2 c2
    refine mw_aload_n (pc' := 12) dX12_here_11 rfl rfl ?_
    refine mw_getR (pc' := 15) dX12_here_12 rfl flX12_38 rfl (skT_47 hS) ?_
    rw [skR_47_11 hS]
    refine mw_aload_n (pc' := 16) dX12_here_15 rfl rfl ?_
    refine mw_getI (pc' := 19) dX12_here_16 rfl flX12_224 rfl (skT_47 hS) ?_
    obtain ⟨o1, K⟩ := K
    refine mw_yaldL (pc' := 20) dX12_here_19 rfl (skT_57 hS) (skL_57 hS) o1 ?_
    refine mw_sipush (pc' := 23) (v := 255) dX12_here_20 rfl (by decide) ?_
    refine mw_iand (pc' := 24) dX12_here_23 rfl ?_
    refine mw_goto (tgt := 28) dX12_here_24 (by decide) ?_
    exact mw_iret dX12_here_28 rfl rfl K

set_option maxRecDepth 100000 in
set_option maxHeartbeats 4000000 in
theorem qX12_isDigit {G : mG} {d : Nat} {b : Nat × Nat} {h : mH} {Q : Option mV → mH → Prop}  (hS : mSk h)
    (K : mC G kX12_here d (0, 0) [.inr (some 47)] h (fun r h1 => ∃ x2, r = some (.inl x2) ∧ mSk h1 ∧ ((x2 < 48 → Q (some (.inl 0)) h1) ∧ (¬ (x2 < 48) → mC G kX12_here d (0, 0) [.inr (some 47)] h1 (fun r h3 => ∃ x4, r = some (.inl x4) ∧ mSk h3 ∧ ∀ w5 : Int32, w5 = (if 57 < x4 then 0 else 1) → Q (some (.inl w5)) h3))))) : mC G kX12_isDigit (d + 1) b [.inr (some 47)] h Q := by
  refine mC_in rfl (Nat.le_of_ble_eq_true rfl) ?_
  show mW _ _ _ _ _ [some (.inr (some 47))] _ _ _
  refine mw_aload_n (pc' := 1) dX12_isDigit_0 rfl rfl ?_
  refine mw_callV (pc' := 4) (b' := (0, 0)) (b1 := b) (av := []) (rest := []) dX12_isDigit_1 rfl lkX12_230 rfl rfl (Nat.le_of_ble_eq_true rfl) ⟨Nat.le_of_eq (Nat.zero_add _), Nat.le_of_eq (Nat.zero_add _)⟩ (skT_47 hS) ?_
  refine mC_mono (fun r h1 hr => ?_) K
  obtain ⟨x2, rfl, hS, K⟩ := hr
  show mW _ _ _ _ _ _ [.inl x2] _ _
  refine mw_bipush (pc' := 6) (v := 48) dX12_isDigit_4 rfl (by decide) ?_
  refine mw_icmp_lt (pc' := 9) (tgt := 22) dX12_isDigit_6 rfl (by decide) (fun c8 => ?_) (fun c8 => ?_)
  · replace K := K.1 c8
    refine mw_iconst (pc' := 23) (v := 0) dX12_isDigit_22 rfl (by decide) ?_
    exact mw_iret dX12_isDigit_23 rfl (by decide) K
  · replace K := K.2 c8
    refine mw_aload_n (pc' := 10) dX12_isDigit_9 rfl rfl ?_
    refine mw_callV (pc' := 13) (b' := (0, 0)) (b1 := b) (av := []) (rest := []) dX12_isDigit_10 rfl lkX12_230 rfl rfl (Nat.le_of_ble_eq_true rfl) ⟨Nat.le_of_eq (Nat.zero_add _), Nat.le_of_eq (Nat.zero_add _)⟩ (skT_47 hS) ?_
    refine mC_mono (fun r h3 hr => ?_) K
    obtain ⟨x4, rfl, hS, K⟩ := hr
    show mW _ _ _ _ _ _ [.inl x4] _ _
    refine mw_bipush (pc' := 15) (v := 57) dX12_isDigit_13 rfl (by decide) ?_
    have J6 : ∀ w5 : Int32, w5 = (if 57 < x4 then 0 else 1) → mW G kX12_isDigit (d + 1) b 23 [some (.inr (some 47))] ([.inl w5]) h3 Q := by
      intro w5 ew5
      replace K := K w5 ew5
      exact mw_iret dX12_isDigit_23 rfl (m_boolN (by rw [ew5]; exact (m_boolI m_bool0 m_bool1))) K
    refine mw_icmp_gt (pc' := 18) (tgt := 22) dX12_isDigit_15 rfl (by decide) (fun c7 => ?_) (fun c7 => ?_)
    · refine mw_iconst (pc' := 23) (v := 0) dX12_isDigit_22 rfl (by decide) ?_
      exact J6 _ (by rw [if_pos c7])
    · refine mw_iconst (pc' := 19) (v := 1) dX12_isDigit_18 rfl (by decide) ?_
      refine mw_goto (tgt := 23) dX12_isDigit_19 (by decide) ?_
      exact J6 _ (by rw [if_neg c7])

set_option maxRecDepth 100000 in
set_option maxHeartbeats 4000000 in
theorem qX12_wrongAt {G : mG} {d : Nat} {b : Nat × Nat} {h : mH} {Q : Option mV → mH → Prop} (v1 : Int32) (v2 : Int32) (hS : mSk h)
    (K : ∀ h1, h1 = mSI h 47 15 (((-1000) * v1) - v2) → Q (some (.inl 0)) h1) : mC G kX12_wrongAt d b [.inr (some 47), .inl v1, .inl v2] h Q := by
  refine mC_in rfl (Nat.le_of_ble_eq_true rfl) ?_
  show mW _ _ _ _ _ [some (.inr (some 47)), some (.inl v1), some (.inl v2)] _ _ _
  refine mw_aload_n (pc' := 1) dX12_wrongAt_0 rfl rfl ?_
  refine mw_sipush (pc' := 4) (v := (-1000)) dX12_wrongAt_1 rfl (by decide) ?_
  refine mw_iload_n (pc' := 5) dX12_wrongAt_4 rfl rfl ?_
  refine mw_imul (pc' := 6) dX12_wrongAt_5 rfl ?_
  refine mw_iload_n (pc' := 7) dX12_wrongAt_6 rfl rfl ?_
  refine mw_isub (pc' := 8) dX12_wrongAt_7 rfl ?_
  refine mw_putIK (pc' := 11) dX12_wrongAt_8 rfl flX12_234 rfl (Or.inl rfl) ⟨rfl, rfl⟩ (skT_47 hS) hS (fun h1 eh1 hS => ?_)
  replace K := K h1 eh1
  refine mw_iconst (pc' := 12) (v := 0) dX12_wrongAt_11 rfl (by decide) ?_
  exact mw_iret dX12_wrongAt_12 rfl (by decide) K

set_option maxRecDepth 100000 in
set_option maxHeartbeats 4000000 in
theorem qX12_takes {G : mG} {d : Nat} {b : Nat × Nat} {h : mH} {Q : Option mV → mH → Prop} (v1 : Int32) (hS : mSk h)
    (K : mC G kX12_here d (0, 0) [.inr (some 47)] h (fun r h1 => ∃ x2, r = some (.inl x2) ∧ mSk h1 ∧ ((x2 = v1 → ∀ h3, h3 = mSI h1 47 13 ((mI h1 47 13) + 1) → Q (some (.inl 1)) h3) ∧ (¬ x2 = v1 → mC G kX12_wrongAt d (0, 0) [.inr (some 47), .inl 1, .inl (mI h1 47 13)] h1 (fun r h4 => ∃ x5, r = some (.inl x5) ∧ mSk h4 ∧ m_bool x5 ∧ Q (some (.inl x5)) h4))))) : mC G kX12_takes (d + 1) b [.inr (some 47), .inl v1] h Q := by
  refine mC_in rfl (Nat.le_of_ble_eq_true rfl) ?_
  show mW _ _ _ _ _ [some (.inr (some 47)), some (.inl v1)] _ _ _
  refine mw_aload_n (pc' := 1) dX12_takes_0 rfl rfl ?_
  refine mw_callV (pc' := 4) (b' := (0, 0)) (b1 := b) (av := []) (rest := []) dX12_takes_1 rfl lkX12_230 rfl rfl (Nat.le_of_ble_eq_true rfl) ⟨Nat.le_of_eq (Nat.zero_add _), Nat.le_of_eq (Nat.zero_add _)⟩ (skT_47 hS) ?_
  refine mC_mono (fun r h1 hr => ?_) K
  obtain ⟨x2, rfl, hS, K⟩ := hr
  show mW _ _ _ _ _ _ [.inl x2] _ _
  refine mw_iload_n (pc' := 5) dX12_takes_4 rfl rfl ?_
  refine mw_icmp_eq (pc' := 8) (tgt := 18) dX12_takes_5 rfl (by decide) (fun c7 => ?_) (fun c7 => ?_)
  · replace K := K.1 c7
    refine mw_aload_n (pc' := 19) dX12_takes_18 rfl rfl ?_
    refine mw_aload_n (pc' := 20) dX12_takes_19 rfl rfl ?_
    refine mw_getI (pc' := 23) dX12_takes_20 rfl flX12_224 rfl (skT_47 hS) ?_
    refine mw_iconst (pc' := 24) (v := 1) dX12_takes_23 rfl (by decide) ?_
    refine mw_iadd (pc' := 25) dX12_takes_24 rfl ?_
    refine mw_putIK (pc' := 28) dX12_takes_25 rfl flX12_224 rfl (Or.inl rfl) ⟨rfl, rfl⟩ (skT_47 hS) hS (fun h3 eh3 hS => ?_)
    replace K := K h3 eh3
    refine mw_iconst (pc' := 29) (v := 1) dX12_takes_28 rfl (by decide) ?_
    exact mw_iret dX12_takes_29 rfl (by decide) K
  · replace K := K.2 c7
    refine mw_aload_n (pc' := 9) dX12_takes_8 rfl rfl ?_
    refine mw_iconst (pc' := 10) (v := 1) dX12_takes_9 rfl (by decide) ?_
    refine mw_aload_n (pc' := 11) dX12_takes_10 rfl rfl ?_
    refine mw_getI (pc' := 14) dX12_takes_11 rfl flX12_224 rfl (skT_47 hS) ?_
    refine mw_callV (pc' := 17) (b' := (0, 0)) (b1 := b) (av := [.inl 1, .inl (mI h1 47 13)]) (rest := []) dX12_takes_14 rfl lkX12_237 rfl rfl (Nat.le_of_ble_eq_true rfl) ⟨Nat.le_of_eq (Nat.zero_add _), Nat.le_of_eq (Nat.zero_add _)⟩ (skT_47 hS) ?_
    refine mC_mono (fun r h4 hr => ?_) K
    obtain ⟨x5, rfl, hS, K⟩ := hr
    show mW _ _ _ _ _ _ [.inl x5] _ _
    obtain ⟨o6, K⟩ := K
    exact mw_iret dX12_takes_17 rfl (m_boolN o6) K

set_option maxRecDepth 100000 in
set_option maxHeartbeats 4000000 in
theorem qX12_readsNumber {G : mG} {d : Nat} {b : Nat × Nat} {h : mH} {Q : Option mV → mH → Prop}  (hS : mSk h)
    (K : ∀ h1, h1 = mSI h 47 20 0 → mW G kX12_readsNumber (d + 2) b 10 [some (.inr (some 47)), some (.inl (mI h 47 13))] [] h1 Q) : mC G kX12_readsNumber (d + 2) b [.inr (some 47)] h Q := by
  refine mC_in rfl (Nat.le_of_ble_eq_true rfl) ?_
  show mW _ _ _ _ _ [some (.inr (some 47)), none] _ _ _
  refine mw_aload_n (pc' := 1) dX12_readsNumber_0 rfl rfl ?_
  refine mw_getI (pc' := 4) dX12_readsNumber_1 rfl flX12_224 rfl (skT_47 hS) ?_
  refine mw_istore_n (pc' := 5) dX12_readsNumber_4 rfl (by decide) ?_
  show mW _ _ _ _ _ [some (.inr (some 47)), some (.inl (mI h 47 13))] _ _ _
  refine mw_aload_n (pc' := 6) dX12_readsNumber_5 rfl rfl ?_
  refine mw_iconst (pc' := 7) (v := 0) dX12_readsNumber_6 rfl (by decide) ?_
  refine mw_putIK (pc' := 10) dX12_readsNumber_7 rfl flX12_240 rfl (Or.inl rfl) ⟨rfl, rfl⟩ (skT_47 hS) hS (fun h1 eh1 hS => ?_)
  replace K := K h1 eh1
  exact K

set_option maxRecDepth 100000 in
set_option maxHeartbeats 4000000 in
theorem qX12_readsNumber_10 {G : mG} {d : Nat} {b : Nat × Nat} {h : mH} {Q : Option mV → mH → Prop} (v1 : Int32) (hS : mSk h)
    (K : mC G kX12_isDigit (d + 1) (0, 0) [.inr (some 47)] h (fun r h1 => ∃ x2, r = some (.inl x2) ∧ mSk h1 ∧ ((x2 = 0 → Q (some (.inl 1)) h1) ∧ (¬ x2 = 0 → ((¬ (mI h1 47 13) = (v1 + 5) → mC G kX12_here (d + 1) (0, 0) [.inr (some 47)] h1 (fun r h3 => ∃ x4, r = some (.inl x4) ∧ mSk h3 ∧ ∀ h5, h5 = mSI h3 47 20 (((10 * (mI h1 47 20)) + x4) - 48) → ∀ h6, h6 = mSI h5 47 13 ((mI h5 47 13) + 1) → mW G kX12_readsNumber (d + 2) b 10 [some (.inr (some 47)), some (.inl v1)] [] h6 Q)) ∧ ((mI h1 47 13) = (v1 + 5) → mC G kX12_wrongAt (d + 1) (0, 0) [.inr (some 47), .inl 2, .inl (mI h1 47 13)] h1 (fun r h7 => ∃ x8, r = some (.inl x8) ∧ mSk h7 ∧ m_bool x8 ∧ Q (some (.inl x8)) h7))))))) : mW G kX12_readsNumber (d + 2) b 10 [some (.inr (some 47)), some (.inl v1)] [] h Q := by
  refine mw_aload_n (pc' := 11) dX12_readsNumber_10 rfl rfl ?_
  refine mw_callV (pc' := 14) (b' := (0, 0)) (b1 := b) (av := []) (rest := []) dX12_readsNumber_11 rfl lkX12_243 rfl rfl (Nat.le_of_ble_eq_true rfl) ⟨Nat.le_of_eq (Nat.zero_add _), Nat.le_of_eq (Nat.zero_add _)⟩ (skT_47 hS) ?_
  refine mC_mono (fun r h1 hr => ?_) K
  obtain ⟨x2, rfl, hS, K⟩ := hr
  show mW _ _ _ _ _ _ [.inl x2] _ _
  refine mw_if_eq (pc' := 17) (tgt := 69) dX12_readsNumber_14 rfl (by decide) (fun c11 => ?_) (fun c11 => ?_)
  · replace K := K.1 c11
    refine mw_iconst (pc' := 70) (v := 1) dX12_readsNumber_69 rfl (by decide) ?_
    exact mw_iret dX12_readsNumber_70 rfl (by decide) K
  · replace K := K.2 c11
    refine mw_aload_n (pc' := 18) dX12_readsNumber_17 rfl rfl ?_
    refine mw_getI (pc' := 21) dX12_readsNumber_18 rfl flX12_224 rfl (skT_47 hS) ?_
    refine mw_iload_n (pc' := 22) dX12_readsNumber_21 rfl rfl ?_
    refine mw_iconst (pc' := 23) (v := 5) dX12_readsNumber_22 rfl (by decide) ?_
    refine mw_iadd (pc' := 24) dX12_readsNumber_23 rfl ?_
    refine mw_icmp_ne (pc' := 27) (tgt := 37) dX12_readsNumber_24 rfl (by decide) (fun c10 => ?_) (fun c10 => ?_)
    · replace K := K.1 c10
      refine mw_aload_n (pc' := 38) dX12_readsNumber_37 rfl rfl ?_
      refine mw_bipush (pc' := 40) (v := 10) dX12_readsNumber_38 rfl (by decide) ?_
      refine mw_aload_n (pc' := 41) dX12_readsNumber_40 rfl rfl ?_
      refine mw_getI (pc' := 44) dX12_readsNumber_41 rfl flX12_240 rfl (skT_47 hS) ?_
      refine mw_imul (pc' := 45) dX12_readsNumber_44 rfl ?_
      refine mw_aload_n (pc' := 46) dX12_readsNumber_45 rfl rfl ?_
      refine mw_callV (pc' := 49) (b' := (0, 0)) (b1 := b) (av := []) (rest := [.inl (10 * (mI h1 47 20)), .inr (some 47)]) dX12_readsNumber_46 rfl lkX12_230 rfl rfl (Nat.le_of_ble_eq_true rfl) ⟨Nat.le_of_eq (Nat.zero_add _), Nat.le_of_eq (Nat.zero_add _)⟩ (skT_47 hS) ?_
      refine mC_mono (fun r h3 hr => ?_) K
      obtain ⟨x4, rfl, hS, K⟩ := hr
      show mW _ _ _ _ _ _ [.inl x4, .inl (10 * (mI h1 47 20)), .inr (some 47)] _ _
      refine mw_iadd (pc' := 50) dX12_readsNumber_49 rfl ?_
      refine mw_bipush (pc' := 52) (v := 48) dX12_readsNumber_50 rfl (by decide) ?_
      refine mw_isub (pc' := 53) dX12_readsNumber_52 rfl ?_
      refine mw_putIK (pc' := 56) dX12_readsNumber_53 rfl flX12_240 rfl (Or.inl rfl) ⟨rfl, rfl⟩ (skT_47 hS) hS (fun h5 eh5 hS => ?_)
      replace K := K h5 eh5
      refine mw_aload_n (pc' := 57) dX12_readsNumber_56 rfl rfl ?_
      refine mw_aload_n (pc' := 58) dX12_readsNumber_57 rfl rfl ?_
      refine mw_getI (pc' := 61) dX12_readsNumber_58 rfl flX12_224 rfl (skT_47 hS) ?_
      refine mw_iconst (pc' := 62) (v := 1) dX12_readsNumber_61 rfl (by decide) ?_
      refine mw_iadd (pc' := 63) dX12_readsNumber_62 rfl ?_
      refine mw_putIK (pc' := 66) dX12_readsNumber_63 rfl flX12_224 rfl (Or.inl rfl) ⟨rfl, rfl⟩ (skT_47 hS) hS (fun h6 eh6 hS => ?_)
      replace K := K h6 eh6
      refine mw_goto (tgt := 10) dX12_readsNumber_66 (by decide) ?_
      exact K
    · replace K := K.2 c10
      refine mw_aload_n (pc' := 28) dX12_readsNumber_27 rfl rfl ?_
      refine mw_iconst (pc' := 29) (v := 2) dX12_readsNumber_28 rfl (by decide) ?_
      refine mw_aload_n (pc' := 30) dX12_readsNumber_29 rfl rfl ?_
      refine mw_getI (pc' := 33) dX12_readsNumber_30 rfl flX12_224 rfl (skT_47 hS) ?_
      refine mw_callV (pc' := 36) (b' := (0, 0)) (b1 := b) (av := [.inl 2, .inl (mI h1 47 13)]) (rest := []) dX12_readsNumber_33 rfl lkX12_237 rfl rfl (Nat.le_of_ble_eq_true rfl) ⟨Nat.le_of_eq (Nat.zero_add _), Nat.le_of_eq (Nat.zero_add _)⟩ (skT_47 hS) ?_
      refine mC_mono (fun r h7 hr => ?_) K
      obtain ⟨x8, rfl, hS, K⟩ := hr
      show mW _ _ _ _ _ _ [.inl x8] _ _
      obtain ⟨o9, K⟩ := K
      exact mw_iret dX12_readsNumber_36 rfl (m_boolN o9) K

set_option maxRecDepth 100000 in
set_option maxHeartbeats 4000000 in
theorem qX12_notes {G : mG} {d : Nat} {b : Nat × Nat} {h : mH} {Q : Option mV → mH → Prop} (v1 : Int32) (v2 : Int32) (hS : mSk h)
    (K : vp_in (mI h 47 17) 180 ∧ ∀ h2, h2 = mSI h 58 (mI h 47 17).toNatClampNeg ((1048576 * v1) + v2) → ∀ h3, h3 = mSI h2 47 17 ((mI h2 47 17) + 1) → Q none h3) : mC G kX12_notes d b [.inr (some 47), .inl v1, .inl v2] h Q := by
  refine mC_in rfl (Nat.le_of_ble_eq_true rfl) ?_
  show mW _ _ _ _ _ [some (.inr (some 47)), some (.inl v1), some (.inl v2)] _ _ _
  refine mw_aload_n (pc' := 1) dX12_notes_0 rfl rfl ?_
  refine mw_getR (pc' := 4) dX12_notes_1 rfl flX12_42 rfl (skT_47 hS) ?_
  rw [skR_47_22 hS]
  refine mw_aload_n (pc' := 5) dX12_notes_4 rfl rfl ?_
  refine mw_getI (pc' := 8) dX12_notes_5 rfl flX12_247 rfl (skT_47 hS) ?_
  refine mw_ldc (pc' := 10) dX12_notes_8 rfl cnX12_250 ?_
  refine mw_iload_n (pc' := 11) dX12_notes_10 rfl rfl ?_
  refine mw_imul (pc' := 12) dX12_notes_11 rfl ?_
  refine mw_iload_n (pc' := 13) dX12_notes_12 rfl rfl ?_
  refine mw_iadd (pc' := 14) dX12_notes_13 rfl ?_
  obtain ⟨o1, K⟩ := K
  refine mw_iastK (pc' := 15) dX12_notes_14 rfl (skT_58 hS) (skL_58 hS) o1 hS (fun h2 eh2 hS => ?_)
  replace K := K h2 eh2
  refine mw_aload_n (pc' := 16) dX12_notes_15 rfl rfl ?_
  refine mw_aload_n (pc' := 17) dX12_notes_16 rfl rfl ?_
  refine mw_getI (pc' := 20) dX12_notes_17 rfl flX12_247 rfl (skT_47 hS) ?_
  refine mw_iconst (pc' := 21) (v := 1) dX12_notes_20 rfl (by decide) ?_
  refine mw_iadd (pc' := 22) dX12_notes_21 rfl ?_
  refine mw_putIK (pc' := 25) dX12_notes_22 rfl flX12_247 rfl (Or.inl rfl) ⟨rfl, rfl⟩ (skT_47 hS) hS (fun h3 eh3 hS => ?_)
  replace K := K h3 eh3
  exact mw_ret dX12_notes_25 rfl K

set_option maxRecDepth 100000 in
set_option maxHeartbeats 4000000 in
theorem qX12_opens {G : mG} {d : Nat} {b : Nat × Nat} {h : mH} {Q : Option mV → mH → Prop} (v1 : Int32) (hS : mSk h)
    (K : ((¬ (mI h 47 16) = 6 → ∀ h1, h1 = mSI h 47 16 ((mI h 47 16) + 1) → vp_in (mI h1 47 18) 180 ∧ ∀ h3, h3 = mSI h1 59 (mI h1 47 18).toNatClampNeg (1048576 * v1) → ∀ h4, h4 = mSI h3 47 18 ((mI h3 47 18) + 1) → ∀ h5, h5 = mSI h4 47 13 ((mI h4 47 13) + 1) → Q (some (.inl 1)) h5) ∧ ((mI h 47 16) = 6 → mC G kX12_wrongAt d (0, 0) [.inr (some 47), .inl 5, .inl (mI h 47 13)] h (fun r h6 => ∃ x7, r = some (.inl x7) ∧ mSk h6 ∧ m_bool x7 ∧ Q (some (.inl x7)) h6)))) : mC G kX12_opens (d + 1) b [.inr (some 47), .inl v1] h Q := by
  refine mC_in rfl (Nat.le_of_ble_eq_true rfl) ?_
  show mW _ _ _ _ _ [some (.inr (some 47)), some (.inl v1)] _ _ _
  refine mw_aload_n (pc' := 1) dX12_opens_0 rfl rfl ?_
  refine mw_getI (pc' := 4) dX12_opens_1 rfl flX12_251 rfl (skT_47 hS) ?_
  refine mw_bipush (pc' := 6) (v := 6) dX12_opens_4 rfl (by decide) ?_
  refine mw_icmp_ne (pc' := 9) (tgt := 19) dX12_opens_6 rfl (by decide) (fun c9 => ?_) (fun c9 => ?_)
  · replace K := K.1 c9
    refine mw_aload_n (pc' := 20) dX12_opens_19 rfl rfl ?_
    refine mw_aload_n (pc' := 21) dX12_opens_20 rfl rfl ?_
    refine mw_getI (pc' := 24) dX12_opens_21 rfl flX12_251 rfl (skT_47 hS) ?_
    refine mw_iconst (pc' := 25) (v := 1) dX12_opens_24 rfl (by decide) ?_
    refine mw_iadd (pc' := 26) dX12_opens_25 rfl ?_
    refine mw_putIK (pc' := 29) dX12_opens_26 rfl flX12_251 rfl (Or.inl rfl) ⟨rfl, rfl⟩ (skT_47 hS) hS (fun h1 eh1 hS => ?_)
    replace K := K h1 eh1
    refine mw_aload_n (pc' := 30) dX12_opens_29 rfl rfl ?_
    refine mw_getR (pc' := 33) dX12_opens_30 rfl flX12_45 rfl (skT_47 hS) ?_
    rw [skR_47_23 hS]
    refine mw_aload_n (pc' := 34) dX12_opens_33 rfl rfl ?_
    refine mw_getI (pc' := 37) dX12_opens_34 rfl flX12_254 rfl (skT_47 hS) ?_
    refine mw_ldc (pc' := 39) dX12_opens_37 rfl cnX12_250 ?_
    refine mw_iload_n (pc' := 40) dX12_opens_39 rfl rfl ?_
    refine mw_imul (pc' := 41) dX12_opens_40 rfl ?_
    obtain ⟨o2, K⟩ := K
    refine mw_iastK (pc' := 42) dX12_opens_41 rfl (skT_59 hS) (skL_59 hS) o2 hS (fun h3 eh3 hS => ?_)
    replace K := K h3 eh3
    refine mw_aload_n (pc' := 43) dX12_opens_42 rfl rfl ?_
    refine mw_aload_n (pc' := 44) dX12_opens_43 rfl rfl ?_
    refine mw_getI (pc' := 47) dX12_opens_44 rfl flX12_254 rfl (skT_47 hS) ?_
    refine mw_iconst (pc' := 48) (v := 1) dX12_opens_47 rfl (by decide) ?_
    refine mw_iadd (pc' := 49) dX12_opens_48 rfl ?_
    refine mw_putIK (pc' := 52) dX12_opens_49 rfl flX12_254 rfl (Or.inl rfl) ⟨rfl, rfl⟩ (skT_47 hS) hS (fun h4 eh4 hS => ?_)
    replace K := K h4 eh4
    refine mw_aload_n (pc' := 53) dX12_opens_52 rfl rfl ?_
    refine mw_aload_n (pc' := 54) dX12_opens_53 rfl rfl ?_
    refine mw_getI (pc' := 57) dX12_opens_54 rfl flX12_224 rfl (skT_47 hS) ?_
    refine mw_iconst (pc' := 58) (v := 1) dX12_opens_57 rfl (by decide) ?_
    refine mw_iadd (pc' := 59) dX12_opens_58 rfl ?_
    refine mw_putIK (pc' := 62) dX12_opens_59 rfl flX12_224 rfl (Or.inl rfl) ⟨rfl, rfl⟩ (skT_47 hS) hS (fun h5 eh5 hS => ?_)
    replace K := K h5 eh5
    refine mw_iconst (pc' := 63) (v := 1) dX12_opens_62 rfl (by decide) ?_
    exact mw_iret dX12_opens_63 rfl (by decide) K
  · replace K := K.2 c9
    refine mw_aload_n (pc' := 10) dX12_opens_9 rfl rfl ?_
    refine mw_iconst (pc' := 11) (v := 5) dX12_opens_10 rfl (by decide) ?_
    refine mw_aload_n (pc' := 12) dX12_opens_11 rfl rfl ?_
    refine mw_getI (pc' := 15) dX12_opens_12 rfl flX12_224 rfl (skT_47 hS) ?_
    refine mw_callV (pc' := 18) (b' := (0, 0)) (b1 := b) (av := [.inl 5, .inl (mI h 47 13)]) (rest := []) dX12_opens_15 rfl lkX12_237 rfl rfl (Nat.le_of_ble_eq_true rfl) ⟨Nat.le_of_eq (Nat.zero_add _), Nat.le_of_eq (Nat.zero_add _)⟩ (skT_47 hS) ?_
    refine mC_mono (fun r h6 hr => ?_) K
    obtain ⟨x7, rfl, hS, K⟩ := hr
    show mW _ _ _ _ _ _ [.inl x7] _ _
    obtain ⟨o8, K⟩ := K
    exact mw_iret dX12_opens_18 rfl (m_boolN o8) K

set_option maxRecDepth 100000 in
set_option maxHeartbeats 4000000 in
theorem qX12_top {G : mG} {d : Nat} {b : Nat × Nat} {h : mH} {Q : Option mV → mH → Prop}  (hS : mSk h)
    (K : ((¬ (mI h 47 18) = 0 → vp_in ((mI h 47 18) - 1) 180 ∧ Q (some (.inl ((mI h 59 ((mI h 47 18) - 1).toNatClampNeg) / 1048576))) h) ∧ ((mI h 47 18) = 0 → Q (some (.inl (-1))) h))) : mC G kX12_top d b [.inr (some 47)] h Q := by
  refine mC_in rfl (Nat.le_of_ble_eq_true rfl) ?_
  show mW _ _ _ _ _ [some (.inr (some 47))] _ _ _
  refine mw_aload_n (pc' := 1) dX12_top_0 rfl rfl ?_
  refine mw_getI (pc' := 4) dX12_top_1 rfl flX12_254 rfl (skT_47 hS) ?_
  refine mw_if_ne (pc' := 7) (tgt := 11) dX12_top_4 rfl (by decide) (fun c2 => ?_) (fun c2 => ?_)
  · replace K := K.1 c2
    refine mw_aload_n (pc' := 12) dX12_top_11 rfl rfl ?_
    refine mw_getR (pc' := 15) dX12_top_12 rfl flX12_45 rfl (skT_47 hS) ?_
    rw [skR_47_23 hS]
    refine mw_aload_n (pc' := 16) dX12_top_15 rfl rfl ?_
    refine mw_getI (pc' := 19) dX12_top_16 rfl flX12_254 rfl (skT_47 hS) ?_
    refine mw_iconst (pc' := 20) (v := 1) dX12_top_19 rfl (by decide) ?_
    refine mw_isub (pc' := 21) dX12_top_20 rfl ?_
    obtain ⟨o1, K⟩ := K
    refine mw_ialdL (pc' := 22) dX12_top_21 rfl (skT_59 hS) (skL_59 hS) o1 ?_
    refine mw_ldc (pc' := 24) dX12_top_22 rfl cnX12_250 ?_
    refine mw_idiv (pc' := 25) dX12_top_24 rfl (by decide) ?_
    exact mw_iret dX12_top_25 rfl rfl K
  · replace K := K.2 c2
    refine mw_iconst (pc' := 8) (v := (-1)) dX12_top_7 rfl (by decide) ?_
    refine mw_goto (tgt := 25) dX12_top_8 (by decide) ?_
    exact mw_iret dX12_top_25 rfl rfl K

set_option maxRecDepth 100000 in
set_option maxHeartbeats 4000000 in
theorem qX12_closesSums {G : mG} {d : Nat} {b : Nat × Nat} {h : mH} {Q : Option mV → mH → Prop} (v1 : Int32) (hS : mSk h)
    (K : mW G kX12_closesSums (d + 1) b 0 [some (.inr (some 47)), some (.inl v1)] [] h Q) : mC G kX12_closesSums (d + 1) b [.inr (some 47), .inl v1] h Q := by
  refine mC_in rfl (Nat.le_of_ble_eq_true rfl) ?_
  show mW _ _ _ _ _ [some (.inr (some 47)), some (.inl v1)] _ _ _
  exact K

set_option maxRecDepth 100000 in
set_option maxHeartbeats 4000000 in
theorem qX12_closesSums_0 {G : mG} {d : Nat} {b : Nat × Nat} {h : mH} {Q : Option mV → mH → Prop} (v1 : Int32) (hS : mSk h)
    (K : mC G kX12_top d (0, 0) [.inr (some 47)] h (fun r h1 => ∃ x2, r = some (.inl x2) ∧ mSk h1 ∧ ((x2 < 4 → ((v1 = 0 → Q none h1) ∧ (¬ v1 = 0 → mC G kX12_top d (0, 0) [.inr (some 47)] h1 (fun r h3 => ∃ x4, r = some (.inl x4) ∧ mSk h3 ∧ ((x4 = 2 → mC G kX12_top d (0, 0) [.inr (some 47)] h3 (fun r h5 => ∃ x6, r = some (.inl x6) ∧ mSk h5 ∧ mC G kX12_notes d (0, 0) [.inr (some 47), .inl x6, .inl 0] h5 (fun r h7 => r = none ∧ mSk h7 ∧ ∀ h8, h8 = mSI h7 47 18 ((mI h7 47 18) - 1) → mW G kX12_closesSums (d + 1) b 0 [some (.inr (some 47)), some (.inl v1)] [] h8 Q))) ∧ (¬ x4 = 2 → mC G kX12_top d (0, 0) [.inr (some 47)] h3 (fun r h9 => ∃ x10, r = some (.inl x10) ∧ mSk h9 ∧ ((¬ x10 = 3 → Q none h9) ∧ (x10 = 3 → mC G kX12_top d (0, 0) [.inr (some 47)] h9 (fun r h11 => ∃ x12, r = some (.inl x12) ∧ mSk h11 ∧ mC G kX12_notes d (0, 0) [.inr (some 47), .inl x12, .inl 0] h11 (fun r h13 => r = none ∧ mSk h13 ∧ ∀ h14, h14 = mSI h13 47 18 ((mI h13 47 18) - 1) → mW G kX12_closesSums (d + 1) b 0 [some (.inr (some 47)), some (.inl v1)] [] h14 Q))))))))))) ∧ (¬ (x2 < 4) → mC G kX12_top d (0, 0) [.inr (some 47)] h1 (fun r h18 => ∃ x19, r = some (.inl x19) ∧ mSk h18 ∧ ((x19 ≤ 6 → mC G kX12_top d (0, 0) [.inr (some 47)] h18 (fun r h20 => ∃ x21, r = some (.inl x21) ∧ mSk h20 ∧ mC G kX12_notes d (0, 0) [.inr (some 47), .inl x21, .inl 0] h20 (fun r h22 => r = none ∧ mSk h22 ∧ ∀ h23, h23 = mSI h22 47 18 ((mI h22 47 18) - 1) → mW G kX12_closesSums (d + 1) b 0 [some (.inr (some 47)), some (.inl v1)] [] h23 Q))) ∧ (¬ (x19 ≤ 6) → ((v1 = 0 → Q none h18) ∧ (¬ v1 = 0 → mC G kX12_top d (0, 0) [.inr (some 47)] h18 (fun r h24 => ∃ x25, r = some (.inl x25) ∧ mSk h24 ∧ ((x25 = 2 → mC G kX12_top d (0, 0) [.inr (some 47)] h24 (fun r h26 => ∃ x27, r = some (.inl x27) ∧ mSk h26 ∧ mC G kX12_notes d (0, 0) [.inr (some 47), .inl x27, .inl 0] h26 (fun r h28 => r = none ∧ mSk h28 ∧ ∀ h29, h29 = mSI h28 47 18 ((mI h28 47 18) - 1) → mW G kX12_closesSums (d + 1) b 0 [some (.inr (some 47)), some (.inl v1)] [] h29 Q))) ∧ (¬ x25 = 2 → mC G kX12_top d (0, 0) [.inr (some 47)] h24 (fun r h30 => ∃ x31, r = some (.inl x31) ∧ mSk h30 ∧ ((¬ x31 = 3 → Q none h30) ∧ (x31 = 3 → mC G kX12_top d (0, 0) [.inr (some 47)] h30 (fun r h32 => ∃ x33, r = some (.inl x33) ∧ mSk h32 ∧ mC G kX12_notes d (0, 0) [.inr (some 47), .inl x33, .inl 0] h32 (fun r h34 => r = none ∧ mSk h34 ∧ ∀ h35, h35 = mSI h34 47 18 ((mI h34 47 18) - 1) → mW G kX12_closesSums (d + 1) b 0 [some (.inr (some 47)), some (.inl v1)] [] h35 Q))))))))))))))))) : mW G kX12_closesSums (d + 1) b 0 [some (.inr (some 47)), some (.inl v1)] [] h Q := by
  refine mw_aload_n (pc' := 1) dX12_closesSums_0 rfl rfl ?_
  refine mw_callV (pc' := 4) (b' := (0, 0)) (b1 := b) (av := []) (rest := []) dX12_closesSums_1 rfl lkX12_257 rfl rfl (Nat.le_of_ble_eq_true rfl) ⟨Nat.le_of_eq (Nat.zero_add _), Nat.le_of_eq (Nat.zero_add _)⟩ (skT_47 hS) ?_
  refine mC_mono (fun r h1 hr => ?_) K
  obtain ⟨x2, rfl, hS, K⟩ := hr
  show mW _ _ _ _ _ _ [.inl x2] _ _
  refine mw_iconst (pc' := 5) (v := 4) dX12_closesSums_4 rfl (by decide) ?_
  refine mw_icmp_lt (pc' := 8) (tgt := 17) dX12_closesSums_5 rfl (by decide) (fun c40 => ?_) (fun c40 => ?_)
  · replace K := K.1 c40
    refine mw_iload_n (pc' := 18) dX12_closesSums_17 rfl rfl ?_
    refine mw_if_eq (pc' := 21) (tgt := 59) dX12_closesSums_18 rfl (by decide) (fun c17 => ?_) (fun c17 => ?_)
    · replace K := K.1 c17
      exact mw_ret dX12_closesSums_59 rfl K
    · replace K := K.2 c17
      refine mw_aload_n (pc' := 22) dX12_closesSums_21 rfl rfl ?_
      refine mw_callV (pc' := 25) (b' := (0, 0)) (b1 := b) (av := []) (rest := []) dX12_closesSums_22 rfl lkX12_257 rfl rfl (Nat.le_of_ble_eq_true rfl) ⟨Nat.le_of_eq (Nat.zero_add _), Nat.le_of_eq (Nat.zero_add _)⟩ (skT_47 hS) ?_
      refine mC_mono (fun r h3 hr => ?_) K
      obtain ⟨x4, rfl, hS, K⟩ := hr
      show mW _ _ _ _ _ _ [.inl x4] _ _
      refine mw_iconst (pc' := 26) (v := 2) dX12_closesSums_25 rfl (by decide) ?_
      refine mw_icmp_eq (pc' := 29) (tgt := 37) dX12_closesSums_26 rfl (by decide) (fun c16 => ?_) (fun c16 => ?_)
      · replace K := K.1 c16
        refine mw_aload_n (pc' := 38) dX12_closesSums_37 rfl rfl ?_
        refine mw_aload_n (pc' := 39) dX12_closesSums_38 rfl rfl ?_
        refine mw_callV (pc' := 42) (b' := (0, 0)) (b1 := b) (av := []) (rest := [.inr (some 47)]) dX12_closesSums_39 rfl lkX12_257 rfl rfl (Nat.le_of_ble_eq_true rfl) ⟨Nat.le_of_eq (Nat.zero_add _), Nat.le_of_eq (Nat.zero_add _)⟩ (skT_47 hS) ?_
        refine mC_mono (fun r h5 hr => ?_) K
        obtain ⟨x6, rfl, hS, K⟩ := hr
        show mW _ _ _ _ _ _ [.inl x6, .inr (some 47)] _ _
        refine mw_iconst (pc' := 43) (v := 0) dX12_closesSums_42 rfl (by decide) ?_
        refine mw_callV (pc' := 46) (b' := (0, 0)) (b1 := b) (av := [.inl x6, .inl 0]) (rest := []) dX12_closesSums_43 rfl lkX12_260 rfl rfl (Nat.le_of_ble_eq_true rfl) ⟨Nat.le_of_eq (Nat.zero_add _), Nat.le_of_eq (Nat.zero_add _)⟩ (skT_47 hS) ?_
        refine mC_mono (fun r h7 hr => ?_) K
        obtain ⟨rfl, hS, K⟩ := hr
        show mW _ _ _ _ _ _ [] _ _
        refine mw_aload_n (pc' := 47) dX12_closesSums_46 rfl rfl ?_
        refine mw_aload_n (pc' := 48) dX12_closesSums_47 rfl rfl ?_
        refine mw_getI (pc' := 51) dX12_closesSums_48 rfl flX12_254 rfl (skT_47 hS) ?_
        refine mw_iconst (pc' := 52) (v := 1) dX12_closesSums_51 rfl (by decide) ?_
        refine mw_isub (pc' := 53) dX12_closesSums_52 rfl ?_
        refine mw_putIK (pc' := 56) dX12_closesSums_53 rfl flX12_254 rfl (Or.inl rfl) ⟨rfl, rfl⟩ (skT_47 hS) hS (fun h8 eh8 hS => ?_)
        replace K := K h8 eh8
        refine mw_goto (tgt := 0) dX12_closesSums_56 (by decide) ?_
        exact K
      · replace K := K.2 c16
        refine mw_aload_n (pc' := 30) dX12_closesSums_29 rfl rfl ?_
        refine mw_callV (pc' := 33) (b' := (0, 0)) (b1 := b) (av := []) (rest := []) dX12_closesSums_30 rfl lkX12_257 rfl rfl (Nat.le_of_ble_eq_true rfl) ⟨Nat.le_of_eq (Nat.zero_add _), Nat.le_of_eq (Nat.zero_add _)⟩ (skT_47 hS) ?_
        refine mC_mono (fun r h9 hr => ?_) K
        obtain ⟨x10, rfl, hS, K⟩ := hr
        show mW _ _ _ _ _ _ [.inl x10] _ _
        refine mw_iconst (pc' := 34) (v := 3) dX12_closesSums_33 rfl (by decide) ?_
        refine mw_icmp_ne (pc' := 37) (tgt := 59) dX12_closesSums_34 rfl (by decide) (fun c15 => ?_) (fun c15 => ?_)
        · replace K := K.1 c15
          exact mw_ret dX12_closesSums_59 rfl K
        · replace K := K.2 c15
          refine mw_aload_n (pc' := 38) dX12_closesSums_37 rfl rfl ?_
          refine mw_aload_n (pc' := 39) dX12_closesSums_38 rfl rfl ?_
          refine mw_callV (pc' := 42) (b' := (0, 0)) (b1 := b) (av := []) (rest := [.inr (some 47)]) dX12_closesSums_39 rfl lkX12_257 rfl rfl (Nat.le_of_ble_eq_true rfl) ⟨Nat.le_of_eq (Nat.zero_add _), Nat.le_of_eq (Nat.zero_add _)⟩ (skT_47 hS) ?_
          refine mC_mono (fun r h11 hr => ?_) K
          obtain ⟨x12, rfl, hS, K⟩ := hr
          show mW _ _ _ _ _ _ [.inl x12, .inr (some 47)] _ _
          refine mw_iconst (pc' := 43) (v := 0) dX12_closesSums_42 rfl (by decide) ?_
          refine mw_callV (pc' := 46) (b' := (0, 0)) (b1 := b) (av := [.inl x12, .inl 0]) (rest := []) dX12_closesSums_43 rfl lkX12_260 rfl rfl (Nat.le_of_ble_eq_true rfl) ⟨Nat.le_of_eq (Nat.zero_add _), Nat.le_of_eq (Nat.zero_add _)⟩ (skT_47 hS) ?_
          refine mC_mono (fun r h13 hr => ?_) K
          obtain ⟨rfl, hS, K⟩ := hr
          show mW _ _ _ _ _ _ [] _ _
          refine mw_aload_n (pc' := 47) dX12_closesSums_46 rfl rfl ?_
          refine mw_aload_n (pc' := 48) dX12_closesSums_47 rfl rfl ?_
          refine mw_getI (pc' := 51) dX12_closesSums_48 rfl flX12_254 rfl (skT_47 hS) ?_
          refine mw_iconst (pc' := 52) (v := 1) dX12_closesSums_51 rfl (by decide) ?_
          refine mw_isub (pc' := 53) dX12_closesSums_52 rfl ?_
          refine mw_putIK (pc' := 56) dX12_closesSums_53 rfl flX12_254 rfl (Or.inl rfl) ⟨rfl, rfl⟩ (skT_47 hS) hS (fun h14 eh14 hS => ?_)
          replace K := K h14 eh14
          refine mw_goto (tgt := 0) dX12_closesSums_56 (by decide) ?_
          exact K
  · replace K := K.2 c40
    refine mw_aload_n (pc' := 9) dX12_closesSums_8 rfl rfl ?_
    refine mw_callV (pc' := 12) (b' := (0, 0)) (b1 := b) (av := []) (rest := []) dX12_closesSums_9 rfl lkX12_257 rfl rfl (Nat.le_of_ble_eq_true rfl) ⟨Nat.le_of_eq (Nat.zero_add _), Nat.le_of_eq (Nat.zero_add _)⟩ (skT_47 hS) ?_
    refine mC_mono (fun r h18 hr => ?_) K
    obtain ⟨x19, rfl, hS, K⟩ := hr
    show mW _ _ _ _ _ _ [.inl x19] _ _
    refine mw_bipush (pc' := 14) (v := 6) dX12_closesSums_12 rfl (by decide) ?_
    refine mw_icmp_le (pc' := 17) (tgt := 37) dX12_closesSums_14 rfl (by decide) (fun c39 => ?_) (fun c39 => ?_)
    · replace K := K.1 c39
      refine mw_aload_n (pc' := 38) dX12_closesSums_37 rfl rfl ?_
      refine mw_aload_n (pc' := 39) dX12_closesSums_38 rfl rfl ?_
      refine mw_callV (pc' := 42) (b' := (0, 0)) (b1 := b) (av := []) (rest := [.inr (some 47)]) dX12_closesSums_39 rfl lkX12_257 rfl rfl (Nat.le_of_ble_eq_true rfl) ⟨Nat.le_of_eq (Nat.zero_add _), Nat.le_of_eq (Nat.zero_add _)⟩ (skT_47 hS) ?_
      refine mC_mono (fun r h20 hr => ?_) K
      obtain ⟨x21, rfl, hS, K⟩ := hr
      show mW _ _ _ _ _ _ [.inl x21, .inr (some 47)] _ _
      refine mw_iconst (pc' := 43) (v := 0) dX12_closesSums_42 rfl (by decide) ?_
      refine mw_callV (pc' := 46) (b' := (0, 0)) (b1 := b) (av := [.inl x21, .inl 0]) (rest := []) dX12_closesSums_43 rfl lkX12_260 rfl rfl (Nat.le_of_ble_eq_true rfl) ⟨Nat.le_of_eq (Nat.zero_add _), Nat.le_of_eq (Nat.zero_add _)⟩ (skT_47 hS) ?_
      refine mC_mono (fun r h22 hr => ?_) K
      obtain ⟨rfl, hS, K⟩ := hr
      show mW _ _ _ _ _ _ [] _ _
      refine mw_aload_n (pc' := 47) dX12_closesSums_46 rfl rfl ?_
      refine mw_aload_n (pc' := 48) dX12_closesSums_47 rfl rfl ?_
      refine mw_getI (pc' := 51) dX12_closesSums_48 rfl flX12_254 rfl (skT_47 hS) ?_
      refine mw_iconst (pc' := 52) (v := 1) dX12_closesSums_51 rfl (by decide) ?_
      refine mw_isub (pc' := 53) dX12_closesSums_52 rfl ?_
      refine mw_putIK (pc' := 56) dX12_closesSums_53 rfl flX12_254 rfl (Or.inl rfl) ⟨rfl, rfl⟩ (skT_47 hS) hS (fun h23 eh23 hS => ?_)
      replace K := K h23 eh23
      refine mw_goto (tgt := 0) dX12_closesSums_56 (by decide) ?_
      exact K
    · replace K := K.2 c39
      refine mw_iload_n (pc' := 18) dX12_closesSums_17 rfl rfl ?_
      refine mw_if_eq (pc' := 21) (tgt := 59) dX12_closesSums_18 rfl (by decide) (fun c38 => ?_) (fun c38 => ?_)
      · replace K := K.1 c38
        exact mw_ret dX12_closesSums_59 rfl K
      · replace K := K.2 c38
        refine mw_aload_n (pc' := 22) dX12_closesSums_21 rfl rfl ?_
        refine mw_callV (pc' := 25) (b' := (0, 0)) (b1 := b) (av := []) (rest := []) dX12_closesSums_22 rfl lkX12_257 rfl rfl (Nat.le_of_ble_eq_true rfl) ⟨Nat.le_of_eq (Nat.zero_add _), Nat.le_of_eq (Nat.zero_add _)⟩ (skT_47 hS) ?_
        refine mC_mono (fun r h24 hr => ?_) K
        obtain ⟨x25, rfl, hS, K⟩ := hr
        show mW _ _ _ _ _ _ [.inl x25] _ _
        refine mw_iconst (pc' := 26) (v := 2) dX12_closesSums_25 rfl (by decide) ?_
        refine mw_icmp_eq (pc' := 29) (tgt := 37) dX12_closesSums_26 rfl (by decide) (fun c37 => ?_) (fun c37 => ?_)
        · replace K := K.1 c37
          refine mw_aload_n (pc' := 38) dX12_closesSums_37 rfl rfl ?_
          refine mw_aload_n (pc' := 39) dX12_closesSums_38 rfl rfl ?_
          refine mw_callV (pc' := 42) (b' := (0, 0)) (b1 := b) (av := []) (rest := [.inr (some 47)]) dX12_closesSums_39 rfl lkX12_257 rfl rfl (Nat.le_of_ble_eq_true rfl) ⟨Nat.le_of_eq (Nat.zero_add _), Nat.le_of_eq (Nat.zero_add _)⟩ (skT_47 hS) ?_
          refine mC_mono (fun r h26 hr => ?_) K
          obtain ⟨x27, rfl, hS, K⟩ := hr
          show mW _ _ _ _ _ _ [.inl x27, .inr (some 47)] _ _
          refine mw_iconst (pc' := 43) (v := 0) dX12_closesSums_42 rfl (by decide) ?_
          refine mw_callV (pc' := 46) (b' := (0, 0)) (b1 := b) (av := [.inl x27, .inl 0]) (rest := []) dX12_closesSums_43 rfl lkX12_260 rfl rfl (Nat.le_of_ble_eq_true rfl) ⟨Nat.le_of_eq (Nat.zero_add _), Nat.le_of_eq (Nat.zero_add _)⟩ (skT_47 hS) ?_
          refine mC_mono (fun r h28 hr => ?_) K
          obtain ⟨rfl, hS, K⟩ := hr
          show mW _ _ _ _ _ _ [] _ _
          refine mw_aload_n (pc' := 47) dX12_closesSums_46 rfl rfl ?_
          refine mw_aload_n (pc' := 48) dX12_closesSums_47 rfl rfl ?_
          refine mw_getI (pc' := 51) dX12_closesSums_48 rfl flX12_254 rfl (skT_47 hS) ?_
          refine mw_iconst (pc' := 52) (v := 1) dX12_closesSums_51 rfl (by decide) ?_
          refine mw_isub (pc' := 53) dX12_closesSums_52 rfl ?_
          refine mw_putIK (pc' := 56) dX12_closesSums_53 rfl flX12_254 rfl (Or.inl rfl) ⟨rfl, rfl⟩ (skT_47 hS) hS (fun h29 eh29 hS => ?_)
          replace K := K h29 eh29
          refine mw_goto (tgt := 0) dX12_closesSums_56 (by decide) ?_
          exact K
        · replace K := K.2 c37
          refine mw_aload_n (pc' := 30) dX12_closesSums_29 rfl rfl ?_
          refine mw_callV (pc' := 33) (b' := (0, 0)) (b1 := b) (av := []) (rest := []) dX12_closesSums_30 rfl lkX12_257 rfl rfl (Nat.le_of_ble_eq_true rfl) ⟨Nat.le_of_eq (Nat.zero_add _), Nat.le_of_eq (Nat.zero_add _)⟩ (skT_47 hS) ?_
          refine mC_mono (fun r h30 hr => ?_) K
          obtain ⟨x31, rfl, hS, K⟩ := hr
          show mW _ _ _ _ _ _ [.inl x31] _ _
          refine mw_iconst (pc' := 34) (v := 3) dX12_closesSums_33 rfl (by decide) ?_
          refine mw_icmp_ne (pc' := 37) (tgt := 59) dX12_closesSums_34 rfl (by decide) (fun c36 => ?_) (fun c36 => ?_)
          · replace K := K.1 c36
            exact mw_ret dX12_closesSums_59 rfl K
          · replace K := K.2 c36
            refine mw_aload_n (pc' := 38) dX12_closesSums_37 rfl rfl ?_
            refine mw_aload_n (pc' := 39) dX12_closesSums_38 rfl rfl ?_
            refine mw_callV (pc' := 42) (b' := (0, 0)) (b1 := b) (av := []) (rest := [.inr (some 47)]) dX12_closesSums_39 rfl lkX12_257 rfl rfl (Nat.le_of_ble_eq_true rfl) ⟨Nat.le_of_eq (Nat.zero_add _), Nat.le_of_eq (Nat.zero_add _)⟩ (skT_47 hS) ?_
            refine mC_mono (fun r h32 hr => ?_) K
            obtain ⟨x33, rfl, hS, K⟩ := hr
            show mW _ _ _ _ _ _ [.inl x33, .inr (some 47)] _ _
            refine mw_iconst (pc' := 43) (v := 0) dX12_closesSums_42 rfl (by decide) ?_
            refine mw_callV (pc' := 46) (b' := (0, 0)) (b1 := b) (av := [.inl x33, .inl 0]) (rest := []) dX12_closesSums_43 rfl lkX12_260 rfl rfl (Nat.le_of_ble_eq_true rfl) ⟨Nat.le_of_eq (Nat.zero_add _), Nat.le_of_eq (Nat.zero_add _)⟩ (skT_47 hS) ?_
            refine mC_mono (fun r h34 hr => ?_) K
            obtain ⟨rfl, hS, K⟩ := hr
            show mW _ _ _ _ _ _ [] _ _
            refine mw_aload_n (pc' := 47) dX12_closesSums_46 rfl rfl ?_
            refine mw_aload_n (pc' := 48) dX12_closesSums_47 rfl rfl ?_
            refine mw_getI (pc' := 51) dX12_closesSums_48 rfl flX12_254 rfl (skT_47 hS) ?_
            refine mw_iconst (pc' := 52) (v := 1) dX12_closesSums_51 rfl (by decide) ?_
            refine mw_isub (pc' := 53) dX12_closesSums_52 rfl ?_
            refine mw_putIK (pc' := 56) dX12_closesSums_53 rfl flX12_254 rfl (Or.inl rfl) ⟨rfl, rfl⟩ (skT_47 hS) hS (fun h35 eh35 hS => ?_)
            replace K := K h35 eh35
            refine mw_goto (tgt := 0) dX12_closesSums_56 (by decide) ?_
            exact K

set_option maxRecDepth 100000 in
set_option maxHeartbeats 4000000 in
theorem qX12_readsFactor {G : mG} {d : Nat} {b : Nat × Nat} {h : mH} {Q : Option mV → mH → Prop}  (hS : mSk h)
    (K : mW G kX12_readsFactor (d + 3) b 0 [some (.inr (some 47)), none] [] h Q) : mC G kX12_readsFactor (d + 3) b [.inr (some 47)] h Q := by
  refine mC_in rfl (Nat.le_of_ble_eq_true rfl) ?_
  show mW _ _ _ _ _ [some (.inr (some 47)), none] _ _ _
  exact K

set_option maxRecDepth 100000 in
set_option maxHeartbeats 4000000 in
theorem qX12_readsFactor_0 {G : mG} {d : Nat} {b : Nat × Nat} {h : mH} {Q : Option mV → mH → Prop}  (hS : mSk h)
    (K : mC G kX12_here (d + 2) (0, 0) [.inr (some 47)] h (fun r h1 => ∃ x2, r = some (.inl x2) ∧ mSk h1 ∧ ((¬ x2 = 91 → mC G kX12_isDigit (d + 2) (0, 0) [.inr (some 47)] h1 (fun r h3 => ∃ x4, r = some (.inl x4) ∧ mSk h3 ∧ ((x4 = 0 → mC G kX12_here (d + 2) (0, 0) [.inr (some 47)] h3 (fun r h5 => ∃ x6, r = some (.inl x6) ∧ mSk h5 ∧ ((¬ (f_X12_factOf x6) = (-1) → mC G kX12_notes (d + 2) (0, 0) [.inr (some 47), .inl 1, .inl (f_X12_factOf x6)] h5 (fun r h7 => r = none ∧ mSk h7 ∧ ∀ h8, h8 = mSI h7 47 13 ((mI h7 47 13) + 1) → Q (some (.inl 1)) h8)) ∧ ((f_X12_factOf x6) = (-1) → mC G kX12_wrongAt (d + 2) (0, 0) [.inr (some 47), .inl 1, .inl (mI h5 47 13)] h5 (fun r h9 => ∃ x10, r = some (.inl x10) ∧ mSk h9 ∧ m_bool x10 ∧ Q (some (.inl x10)) h9))))) ∧ (¬ x4 = 0 → mC G kX12_readsNumber (d + 2) (0, 0) [.inr (some 47)] h3 (fun r h13 => ∃ x14, r = some (.inl x14) ∧ mSk h13 ∧ ((¬ x14 = 0 → mC G kX12_notes (d + 2) (0, 0) [.inr (some 47), .inl 0, .inl (mI h13 47 20)] h13 (fun r h15 => r = none ∧ mSk h15 ∧ Q (some (.inl 1)) h15)) ∧ (x14 = 0 → Q (some (.inl 0)) h13))))))) ∧ (x2 = 91 → mC G kX12_opens (d + 2) (0, 0) [.inr (some 47), .inl 14] h1 (fun r h18 => ∃ x19, r = some (.inl x19) ∧ mSk h18 ∧ ((¬ x19 = 0 → mW G kX12_readsFactor (d + 3) b 0 [some (.inr (some 47)), none] [] h18 Q) ∧ (x19 = 0 → Q (some (.inl 0)) h18))))))) : mW G kX12_readsFactor (d + 3) b 0 [some (.inr (some 47)), none] [] h Q := by
  refine mw_aload_n (pc' := 1) dX12_readsFactor_0 rfl rfl ?_
  refine mw_callV (pc' := 4) (b' := (0, 0)) (b1 := b) (av := []) (rest := []) dX12_readsFactor_1 rfl lkX12_230 rfl rfl (Nat.le_of_ble_eq_true rfl) ⟨Nat.le_of_eq (Nat.zero_add _), Nat.le_of_eq (Nat.zero_add _)⟩ (skT_47 hS) ?_
  refine mC_mono (fun r h1 hr => ?_) K
  obtain ⟨x2, rfl, hS, K⟩ := hr
  show mW _ _ _ _ _ _ [.inl x2] _ _
  refine mw_bipush (pc' := 6) (v := 91) dX12_readsFactor_4 rfl (by decide) ?_
  refine mw_icmp_ne (pc' := 9) (tgt := 20) dX12_readsFactor_6 rfl (by decide) (fun c21 => ?_) (fun c21 => ?_)
  · replace K := K.1 c21
    refine mw_aload_n (pc' := 21) dX12_readsFactor_20 rfl rfl ?_
    refine mw_callV (pc' := 24) (b' := (0, 0)) (b1 := b) (av := []) (rest := []) dX12_readsFactor_21 rfl lkX12_243 rfl rfl (Nat.le_of_ble_eq_true rfl) ⟨Nat.le_of_eq (Nat.zero_add _), Nat.le_of_eq (Nat.zero_add _)⟩ (skT_47 hS) ?_
    refine mC_mono (fun r h3 hr => ?_) K
    obtain ⟨x4, rfl, hS, K⟩ := hr
    show mW _ _ _ _ _ _ [.inl x4] _ _
    refine mw_if_eq (pc' := 27) (tgt := 47) dX12_readsFactor_24 rfl (by decide) (fun c17 => ?_) (fun c17 => ?_)
    · replace K := K.1 c17
      refine mw_aload_n (pc' := 48) dX12_readsFactor_47 rfl rfl ?_
      refine mw_callV (pc' := 51) (b' := (0, 0)) (b1 := b) (av := []) (rest := []) dX12_readsFactor_48 rfl lkX12_230 rfl rfl (Nat.le_of_ble_eq_true rfl) ⟨Nat.le_of_eq (Nat.zero_add _), Nat.le_of_eq (Nat.zero_add _)⟩ (skT_47 hS) ?_
      refine mC_mono (fun r h5 hr => ?_) K
      obtain ⟨x6, rfl, hS, K⟩ := hr
      show mW _ _ _ _ _ _ [.inl x6] _ _
      refine mw_callS (pc' := 54) (b' := (0, 0)) (b1 := b) (av := [.inl x6]) (rest := []) dX12_readsFactor_51 rfl lkX12_270 rfl rfl (Nat.le_of_ble_eq_true rfl) ⟨Nat.le_of_eq (Nat.zero_add _), Nat.le_of_eq (Nat.zero_add _)⟩ ?_
      refine pX12_factOf ?_
      refine mw_istore_n (pc' := 55) dX12_readsFactor_54 rfl (by decide) ?_
      show mW _ _ _ _ _ [some (.inr (some 47)), some (.inl (f_X12_factOf x6))] _ _ _
      refine mw_iload_n (pc' := 56) dX12_readsFactor_55 rfl rfl ?_
      refine mw_iconst (pc' := 57) (v := (-1)) dX12_readsFactor_56 rfl (by decide) ?_
      refine mw_icmp_ne (pc' := 60) (tgt := 70) dX12_readsFactor_57 rfl (by decide) (fun c12 => ?_) (fun c12 => ?_)
      · replace K := K.1 c12
        refine mw_aload_n (pc' := 71) dX12_readsFactor_70 rfl rfl ?_
        refine mw_iconst (pc' := 72) (v := 1) dX12_readsFactor_71 rfl (by decide) ?_
        refine mw_iload_n (pc' := 73) dX12_readsFactor_72 rfl rfl ?_
        refine mw_callV (pc' := 76) (b' := (0, 0)) (b1 := b) (av := [.inl 1, .inl (f_X12_factOf x6)]) (rest := []) dX12_readsFactor_73 rfl lkX12_260 rfl rfl (Nat.le_of_ble_eq_true rfl) ⟨Nat.le_of_eq (Nat.zero_add _), Nat.le_of_eq (Nat.zero_add _)⟩ (skT_47 hS) ?_
        refine mC_mono (fun r h7 hr => ?_) K
        obtain ⟨rfl, hS, K⟩ := hr
        show mW _ _ _ _ _ _ [] _ _
        refine mw_aload_n (pc' := 77) dX12_readsFactor_76 rfl rfl ?_
        refine mw_aload_n (pc' := 78) dX12_readsFactor_77 rfl rfl ?_
        refine mw_getI (pc' := 81) dX12_readsFactor_78 rfl flX12_224 rfl (skT_47 hS) ?_
        refine mw_iconst (pc' := 82) (v := 1) dX12_readsFactor_81 rfl (by decide) ?_
        refine mw_iadd (pc' := 83) dX12_readsFactor_82 rfl ?_
        refine mw_putIK (pc' := 86) dX12_readsFactor_83 rfl flX12_224 rfl (Or.inl rfl) ⟨rfl, rfl⟩ (skT_47 hS) hS (fun h8 eh8 hS => ?_)
        replace K := K h8 eh8
        refine mw_iconst (pc' := 87) (v := 1) dX12_readsFactor_86 rfl (by decide) ?_
        exact mw_iret dX12_readsFactor_87 rfl (by decide) K
      · replace K := K.2 c12
        refine mw_aload_n (pc' := 61) dX12_readsFactor_60 rfl rfl ?_
        refine mw_iconst (pc' := 62) (v := 1) dX12_readsFactor_61 rfl (by decide) ?_
        refine mw_aload_n (pc' := 63) dX12_readsFactor_62 rfl rfl ?_
        refine mw_getI (pc' := 66) dX12_readsFactor_63 rfl flX12_224 rfl (skT_47 hS) ?_
        refine mw_callV (pc' := 69) (b' := (0, 0)) (b1 := b) (av := [.inl 1, .inl (mI h5 47 13)]) (rest := []) dX12_readsFactor_66 rfl lkX12_237 rfl rfl (Nat.le_of_ble_eq_true rfl) ⟨Nat.le_of_eq (Nat.zero_add _), Nat.le_of_eq (Nat.zero_add _)⟩ (skT_47 hS) ?_
        refine mC_mono (fun r h9 hr => ?_) K
        obtain ⟨x10, rfl, hS, K⟩ := hr
        show mW _ _ _ _ _ _ [.inl x10] _ _
        obtain ⟨o11, K⟩ := K
        exact mw_iret dX12_readsFactor_69 rfl (m_boolN o11) K
    · replace K := K.2 c17
      refine mw_aload_n (pc' := 28) dX12_readsFactor_27 rfl rfl ?_
      refine mw_callV (pc' := 31) (b' := (0, 0)) (b1 := b) (av := []) (rest := []) dX12_readsFactor_28 rfl lkX12_267 rfl rfl (Nat.le_of_ble_eq_true rfl) ⟨Nat.le_of_eq (Nat.zero_add _), Nat.le_of_eq (Nat.zero_add _)⟩ (skT_47 hS) ?_
      refine mC_mono (fun r h13 hr => ?_) K
      obtain ⟨x14, rfl, hS, K⟩ := hr
      show mW _ _ _ _ _ _ [.inl x14] _ _
      refine mw_if_ne (pc' := 34) (tgt := 36) dX12_readsFactor_31 rfl (by decide) (fun c16 => ?_) (fun c16 => ?_)
      · replace K := K.1 c16
        refine mw_aload_n (pc' := 37) dX12_readsFactor_36 rfl rfl ?_
        refine mw_iconst (pc' := 38) (v := 0) dX12_readsFactor_37 rfl (by decide) ?_
        refine mw_aload_n (pc' := 39) dX12_readsFactor_38 rfl rfl ?_
        refine mw_getI (pc' := 42) dX12_readsFactor_39 rfl flX12_240 rfl (skT_47 hS) ?_
        refine mw_callV (pc' := 45) (b' := (0, 0)) (b1 := b) (av := [.inl 0, .inl (mI h13 47 20)]) (rest := []) dX12_readsFactor_42 rfl lkX12_260 rfl rfl (Nat.le_of_ble_eq_true rfl) ⟨Nat.le_of_eq (Nat.zero_add _), Nat.le_of_eq (Nat.zero_add _)⟩ (skT_47 hS) ?_
        refine mC_mono (fun r h15 hr => ?_) K
        obtain ⟨rfl, hS, K⟩ := hr
        show mW _ _ _ _ _ _ [] _ _
        refine mw_iconst (pc' := 46) (v := 1) dX12_readsFactor_45 rfl (by decide) ?_
        exact mw_iret dX12_readsFactor_46 rfl (by decide) K
      · replace K := K.2 c16
        refine mw_iconst (pc' := 35) (v := 0) dX12_readsFactor_34 rfl (by decide) ?_
        exact mw_iret dX12_readsFactor_35 rfl (by decide) K
  · replace K := K.2 c21
    refine mw_aload_n (pc' := 10) dX12_readsFactor_9 rfl rfl ?_
    refine mw_bipush (pc' := 12) (v := 14) dX12_readsFactor_10 rfl (by decide) ?_
    refine mw_callV (pc' := 15) (b' := (0, 0)) (b1 := b) (av := [.inl 14]) (rest := []) dX12_readsFactor_12 rfl lkX12_264 rfl rfl (Nat.le_of_ble_eq_true rfl) ⟨Nat.le_of_eq (Nat.zero_add _), Nat.le_of_eq (Nat.zero_add _)⟩ (skT_47 hS) ?_
    refine mC_mono (fun r h18 hr => ?_) K
    obtain ⟨x19, rfl, hS, K⟩ := hr
    show mW _ _ _ _ _ _ [.inl x19] _ _
    refine mw_if_ne (pc' := 18) (tgt := 0) dX12_readsFactor_15 rfl (by decide) (fun c20 => ?_) (fun c20 => ?_)
    · replace K := K.1 c20
      exact K
    · replace K := K.2 c20
      refine mw_iconst (pc' := 19) (v := 0) dX12_readsFactor_18 rfl (by decide) ?_
      exact mw_iret dX12_readsFactor_19 rfl (by decide) K

set_option maxRecDepth 100000 in
set_option maxHeartbeats 4000000 in
theorem qX12_hasOpenSum {G : mG} {d : Nat} {b : Nat × Nat} {h : mH} {Q : Option mV → mH → Prop} (v1 : Int32) (hS : mSk h)
    (K : mW G kX12_hasOpenSum d b 2 [some (.inr (some 47)), none, some (.inl v1)] [] h Q) : mC G kX12_hasOpenSum d b [.inr (some 47), .inl v1] h Q := by
  refine mC_in rfl (Nat.le_of_ble_eq_true rfl) ?_
  show mW _ _ _ _ _ [some (.inr (some 47)), some (.inl v1), none] _ _ _
  refine mw_iload_n (pc' := 1) dX12_hasOpenSum_0 rfl rfl ?_
  refine mw_istore_n (pc' := 2) dX12_hasOpenSum_1 rfl (by decide) ?_
  show mW _ _ _ _ _ [some (.inr (some 47)), some (.inl v1), some (.inl v1)] _ _ _
  refine mw_weak (ls' := [some (.inr (some 47)), none, some (.inl v1)]) ?_ ?_
  · intro i v hv; match i, hv with
    | 0, hv => exact hv
    | 1, hv => cases hv
    | 2, hv => exact hv
    | n + 3, hv => cases hv
  exact K

set_option maxRecDepth 100000 in
set_option maxHeartbeats 4000000 in
theorem qX12_hasOpenSum_2 {G : mG} {d : Nat} {b : Nat × Nat} {h : mH} {Q : Option mV → mH → Prop} (v2 : Int32) (hS : mSk h)
    (K : (((mI h 47 18) ≤ v2 → Q (some (.inl 0)) h) ∧ (¬ ((mI h 47 18) ≤ v2) → vp_in v2 180 ∧ ((¬ ((mI h 59 v2.toNatClampNeg) / 1048576) = 14 → mW G kX12_hasOpenSum d b 2 [some (.inr (some 47)), none, some (.inl (v2 + 1))] [] h Q) ∧ (((mI h 59 v2.toNatClampNeg) / 1048576) = 14 → Q (some (.inl 1)) h))))) : mW G kX12_hasOpenSum d b 2 [some (.inr (some 47)), none, some (.inl v2)] [] h Q := by
  refine mw_iload_n (pc' := 3) dX12_hasOpenSum_2 rfl rfl ?_
  refine mw_aload_n (pc' := 4) dX12_hasOpenSum_3 rfl rfl ?_
  refine mw_getI (pc' := 7) dX12_hasOpenSum_4 rfl flX12_254 rfl (skT_47 hS) ?_
  refine mw_icmp_ge (pc' := 10) (tgt := 32) dX12_hasOpenSum_7 rfl (by decide) (fun c3 => ?_) (fun c3 => ?_)
  · replace K := K.1 c3
    refine mw_iconst (pc' := 33) (v := 0) dX12_hasOpenSum_32 rfl (by decide) ?_
    exact mw_iret dX12_hasOpenSum_33 rfl (by decide) K
  · replace K := K.2 c3
    refine mw_aload_n (pc' := 11) dX12_hasOpenSum_10 rfl rfl ?_
    refine mw_getR (pc' := 14) dX12_hasOpenSum_11 rfl flX12_45 rfl (skT_47 hS) ?_
    rw [skR_47_23 hS]
    refine mw_iload_n (pc' := 15) dX12_hasOpenSum_14 rfl rfl ?_
    obtain ⟨o1, K⟩ := K
    refine mw_ialdL (pc' := 16) dX12_hasOpenSum_15 rfl (skT_59 hS) (skL_59 hS) o1 ?_
    refine mw_ldc (pc' := 18) dX12_hasOpenSum_16 rfl cnX12_250 ?_
    refine mw_idiv (pc' := 19) dX12_hasOpenSum_18 rfl (by decide) ?_
    refine mw_bipush (pc' := 21) (v := 14) dX12_hasOpenSum_19 rfl (by decide) ?_
    refine mw_icmp_ne (pc' := 24) (tgt := 26) dX12_hasOpenSum_21 rfl (by decide) (fun c2 => ?_) (fun c2 => ?_)
    · replace K := K.1 c2
      refine mw_iinc (pc' := 29) (v := v2 + 1) dX12_hasOpenSum_26 rfl (by decide) rfl rfl ?_
      show mW _ _ _ _ _ [some (.inr (some 47)), none, some (.inl (v2 + 1))] _ _ _
      refine mw_goto (tgt := 2) dX12_hasOpenSum_29 (by decide) ?_
      exact K
    · replace K := K.2 c2
      refine mw_iconst (pc' := 25) (v := 1) dX12_hasOpenSum_24 rfl (by decide) ?_
      exact mw_iret dX12_hasOpenSum_25 rfl (by decide) K

set_option maxRecDepth 100000 in
set_option maxHeartbeats 4000000 in
theorem qX12_readsSum {G : mG} {d : Nat} {b : Nat × Nat} {h : mH} {Q : Option mV → mH → Prop}  (hS : mSk h)
    (K : mC G kX12_readsFactor (d + 3) (0, 0) [.inr (some 47)] h (fun r h1 => ∃ x2, r = some (.inl x2) ∧ mSk h1 ∧ ((¬ x2 = 0 → mW G kX12_readsSum (d + 4) b 14 [some (.inr (some 47)), some (.inl (mI h 47 18)), none] [] h1 Q) ∧ (x2 = 0 → Q (some (.inl 0)) h1)))) : mC G kX12_readsSum (d + 4) b [.inr (some 47)] h Q := by
  refine mC_in rfl (Nat.le_of_ble_eq_true rfl) ?_
  show mW _ _ _ _ _ [some (.inr (some 47)), none, none] _ _ _
  refine mw_aload_n (pc' := 1) dX12_readsSum_0 rfl rfl ?_
  refine mw_getI (pc' := 4) dX12_readsSum_1 rfl flX12_254 rfl (skT_47 hS) ?_
  refine mw_istore_n (pc' := 5) dX12_readsSum_4 rfl (by decide) ?_
  show mW _ _ _ _ _ [some (.inr (some 47)), some (.inl (mI h 47 18)), none] _ _ _
  refine mw_aload_n (pc' := 6) dX12_readsSum_5 rfl rfl ?_
  refine mw_callV (pc' := 9) (b' := (0, 0)) (b1 := b) (av := []) (rest := []) dX12_readsSum_6 rfl lkX12_273 rfl rfl (Nat.le_of_ble_eq_true rfl) ⟨Nat.le_of_eq (Nat.zero_add _), Nat.le_of_eq (Nat.zero_add _)⟩ (skT_47 hS) ?_
  refine mC_mono (fun r h1 hr => ?_) K
  obtain ⟨x2, rfl, hS, K⟩ := hr
  show mW _ _ _ _ _ _ [.inl x2] _ _
  refine mw_if_ne (pc' := 12) (tgt := 14) dX12_readsSum_9 rfl (by decide) (fun c3 => ?_) (fun c3 => ?_)
  · replace K := K.1 c3
    exact K
  · replace K := K.2 c3
    refine mw_iconst (pc' := 13) (v := 0) dX12_readsSum_12 rfl (by decide) ?_
    exact mw_iret dX12_readsSum_13 rfl (by decide) K

set_option maxRecDepth 100000 in
set_option maxHeartbeats 4000000 in
theorem qX12_readsSum_14 {G : mG} {d : Nat} {b : Nat × Nat} {h : mH} {Q : Option mV → mH → Prop} (v1 : Int32) (hS : mSk h)
    (K : mC G kX12_here (d + 3) (0, 0) [.inr (some 47)] h (fun r h1 => ∃ x2, r = some (.inl x2) ∧ mSk h1 ∧ (((f_X12_sumSign x2) = (-1) → mC G kX12_here (d + 3) (0, 0) [.inr (some 47)] h1 (fun r h3 => ∃ x4, r = some (.inl x4) ∧ mSk h3 ∧ ((¬ x4 = 93 → mC G kX12_hasOpenSum (d + 3) (0, 0) [.inr (some 47), .inl v1] h3 (fun r h5 => ∃ x6, r = some (.inl x6) ∧ mSk h5 ∧ ((x6 = 0 → mC G kX12_closesSums (d + 3) (0, 0) [.inr (some 47), .inl 1] h5 (fun r h7 => r = none ∧ mSk h7 ∧ Q (some (.inl 1)) h7)) ∧ (¬ x6 = 0 → mC G kX12_wrongAt (d + 3) (0, 0) [.inr (some 47), .inl 1, .inl (mI h5 47 13)] h5 (fun r h8 => ∃ x9, r = some (.inl x9) ∧ mSk h8 ∧ m_bool x9 ∧ Q (some (.inl x9)) h8))))) ∧ (x4 = 93 → mC G kX12_hasOpenSum (d + 3) (0, 0) [.inr (some 47), .inl v1] h3 (fun r h12 => ∃ x13, r = some (.inl x13) ∧ mSk h12 ∧ ((x13 = 0 → mC G kX12_hasOpenSum (d + 3) (0, 0) [.inr (some 47), .inl v1] h12 (fun r h14 => ∃ x15, r = some (.inl x15) ∧ mSk h14 ∧ ((x15 = 0 → mC G kX12_closesSums (d + 3) (0, 0) [.inr (some 47), .inl 1] h14 (fun r h16 => r = none ∧ mSk h16 ∧ Q (some (.inl 1)) h16)) ∧ (¬ x15 = 0 → mC G kX12_wrongAt (d + 3) (0, 0) [.inr (some 47), .inl 1, .inl (mI h14 47 13)] h14 (fun r h17 => ∃ x18, r = some (.inl x18) ∧ mSk h17 ∧ m_bool x18 ∧ Q (some (.inl x18)) h17))))) ∧ (¬ x13 = 0 → mC G kX12_closesSums (d + 3) (0, 0) [.inr (some 47), .inl 1] h12 (fun r h21 => r = none ∧ mSk h21 ∧ ∀ h22, h22 = mSI h21 47 18 ((mI h21 47 18) - 1) → ∀ h23, h23 = mSI h22 47 16 ((mI h22 47 16) - 1) → ∀ h24, h24 = mSI h23 47 13 ((mI h23 47 13) + 1) → mW G kX12_readsSum (d + 4) b 14 [some (.inr (some 47)), some (.inl v1), none] [] h24 Q)))))))) ∧ (¬ (f_X12_sumSign x2) = (-1) → ∀ w27 : Int32, w27 = (if 4 ≤ (f_X12_sumSign x2) then 0 else 1) → mC G kX12_closesSums (d + 3) (0, 0) [.inr (some 47), .inl w27] h1 (fun r h28 => r = none ∧ mSk h28 ∧ vp_in (mI h28 47 18) 180 ∧ ∀ h30, h30 = mSI h28 59 (mI h28 47 18).toNatClampNeg (1048576 * (f_X12_sumSign x2)) → ∀ h31, h31 = mSI h30 47 18 ((mI h30 47 18) + 1) → ∀ h32, h32 = mSI h31 47 13 ((mI h31 47 13) + 1) → mC G kX12_readsFactor (d + 3) (0, 0) [.inr (some 47)] h32 (fun r h33 => ∃ x34, r = some (.inl x34) ∧ mSk h33 ∧ ((¬ x34 = 0 → mW G kX12_readsSum (d + 4) b 14 [some (.inr (some 47)), some (.inl v1), none] [] h33 Q) ∧ (x34 = 0 → Q (some (.inl 0)) h33)))))))) : mW G kX12_readsSum (d + 4) b 14 [some (.inr (some 47)), some (.inl v1), none] [] h Q := by
  refine mw_aload_n (pc' := 15) dX12_readsSum_14 rfl rfl ?_
  refine mw_callV (pc' := 18) (b' := (0, 0)) (b1 := b) (av := []) (rest := []) dX12_readsSum_15 rfl lkX12_230 rfl rfl (Nat.le_of_ble_eq_true rfl) ⟨Nat.le_of_eq (Nat.zero_add _), Nat.le_of_eq (Nat.zero_add _)⟩ (skT_47 hS) ?_
  refine mC_mono (fun r h1 hr => ?_) K
  obtain ⟨x2, rfl, hS, K⟩ := hr
  show mW _ _ _ _ _ _ [.inl x2] _ _
  refine mw_callS (pc' := 21) (b' := (0, 0)) (b1 := b) (av := [.inl x2]) (rest := []) dX12_readsSum_18 rfl lkX12_276 rfl rfl (Nat.le_of_ble_eq_true rfl) ⟨Nat.le_of_eq (Nat.zero_add _), Nat.le_of_eq (Nat.zero_add _)⟩ ?_
  refine pX12_sumSign ?_
  refine mw_istore_n (pc' := 22) dX12_readsSum_21 rfl (by decide) ?_
  show mW _ _ _ _ _ [some (.inr (some 47)), some (.inl v1), some (.inl (f_X12_sumSign x2))] _ _ _
  refine mw_iload_n (pc' := 23) dX12_readsSum_22 rfl rfl ?_
  refine mw_iconst (pc' := 24) (v := (-1)) dX12_readsSum_23 rfl (by decide) ?_
  refine mw_icmp_eq (pc' := 27) (tgt := 83) dX12_readsSum_24 rfl (by decide) (fun c38 => ?_) (fun c38 => ?_)
  · replace K := K.1 c38
    refine mw_aload_n (pc' := 84) dX12_readsSum_83 rfl rfl ?_
    refine mw_callV (pc' := 87) (b' := (0, 0)) (b1 := b) (av := []) (rest := []) dX12_readsSum_84 rfl lkX12_230 rfl rfl (Nat.le_of_ble_eq_true rfl) ⟨Nat.le_of_eq (Nat.zero_add _), Nat.le_of_eq (Nat.zero_add _)⟩ (skT_47 hS) ?_
    refine mC_mono (fun r h3 hr => ?_) K
    obtain ⟨x4, rfl, hS, K⟩ := hr
    show mW _ _ _ _ _ _ [.inl x4] _ _
    refine mw_bipush (pc' := 89) (v := 93) dX12_readsSum_87 rfl (by decide) ?_
    refine mw_icmp_ne (pc' := 92) (tgt := 138) dX12_readsSum_89 rfl (by decide) (fun c26 => ?_) (fun c26 => ?_)
    · replace K := K.1 c26
      refine mw_aload_n (pc' := 139) dX12_readsSum_138 rfl rfl ?_
      refine mw_iload_n (pc' := 140) dX12_readsSum_139 rfl rfl ?_
      refine mw_callV (pc' := 143) (b' := (0, 0)) (b1 := b) (av := [.inl v1]) (rest := []) dX12_readsSum_140 rfl lkX12_283 rfl rfl (Nat.le_of_ble_eq_true rfl) ⟨Nat.le_of_eq (Nat.zero_add _), Nat.le_of_eq (Nat.zero_add _)⟩ (skT_47 hS) ?_
      refine mC_mono (fun r h5 hr => ?_) K
      obtain ⟨x6, rfl, hS, K⟩ := hr
      show mW _ _ _ _ _ _ [.inl x6] _ _
      refine mw_if_eq (pc' := 146) (tgt := 156) dX12_readsSum_143 rfl (by decide) (fun c11 => ?_) (fun c11 => ?_)
      · replace K := K.1 c11
        refine mw_aload_n (pc' := 157) dX12_readsSum_156 rfl rfl ?_
        refine mw_iconst (pc' := 158) (v := 1) dX12_readsSum_157 rfl (by decide) ?_
        refine mw_callV (pc' := 161) (b' := (0, 0)) (b1 := b) (av := [.inl 1]) (rest := []) dX12_readsSum_158 rfl lkX12_279 rfl rfl (Nat.le_of_ble_eq_true rfl) ⟨Nat.le_of_eq (Nat.zero_add _), Nat.le_of_eq (Nat.zero_add _)⟩ (skT_47 hS) ?_
        refine mC_mono (fun r h7 hr => ?_) K
        obtain ⟨rfl, hS, K⟩ := hr
        show mW _ _ _ _ _ _ [] _ _
        refine mw_iconst (pc' := 162) (v := 1) dX12_readsSum_161 rfl (by decide) ?_
        exact mw_iret dX12_readsSum_162 rfl (by decide) K
      · replace K := K.2 c11
        refine mw_aload_n (pc' := 147) dX12_readsSum_146 rfl rfl ?_
        refine mw_iconst (pc' := 148) (v := 1) dX12_readsSum_147 rfl (by decide) ?_
        refine mw_aload_n (pc' := 149) dX12_readsSum_148 rfl rfl ?_
        refine mw_getI (pc' := 152) dX12_readsSum_149 rfl flX12_224 rfl (skT_47 hS) ?_
        refine mw_callV (pc' := 155) (b' := (0, 0)) (b1 := b) (av := [.inl 1, .inl (mI h5 47 13)]) (rest := []) dX12_readsSum_152 rfl lkX12_237 rfl rfl (Nat.le_of_ble_eq_true rfl) ⟨Nat.le_of_eq (Nat.zero_add _), Nat.le_of_eq (Nat.zero_add _)⟩ (skT_47 hS) ?_
        refine mC_mono (fun r h8 hr => ?_) K
        obtain ⟨x9, rfl, hS, K⟩ := hr
        show mW _ _ _ _ _ _ [.inl x9] _ _
        obtain ⟨o10, K⟩ := K
        exact mw_iret dX12_readsSum_155 rfl (m_boolN o10) K
    · replace K := K.2 c26
      refine mw_aload_n (pc' := 93) dX12_readsSum_92 rfl rfl ?_
      refine mw_iload_n (pc' := 94) dX12_readsSum_93 rfl rfl ?_
      refine mw_callV (pc' := 97) (b' := (0, 0)) (b1 := b) (av := [.inl v1]) (rest := []) dX12_readsSum_94 rfl lkX12_283 rfl rfl (Nat.le_of_ble_eq_true rfl) ⟨Nat.le_of_eq (Nat.zero_add _), Nat.le_of_eq (Nat.zero_add _)⟩ (skT_47 hS) ?_
      refine mC_mono (fun r h12 hr => ?_) K
      obtain ⟨x13, rfl, hS, K⟩ := hr
      show mW _ _ _ _ _ _ [.inl x13] _ _
      refine mw_if_eq (pc' := 100) (tgt := 138) dX12_readsSum_97 rfl (by decide) (fun c25 => ?_) (fun c25 => ?_)
      · replace K := K.1 c25
        refine mw_aload_n (pc' := 139) dX12_readsSum_138 rfl rfl ?_
        refine mw_iload_n (pc' := 140) dX12_readsSum_139 rfl rfl ?_
        refine mw_callV (pc' := 143) (b' := (0, 0)) (b1 := b) (av := [.inl v1]) (rest := []) dX12_readsSum_140 rfl lkX12_283 rfl rfl (Nat.le_of_ble_eq_true rfl) ⟨Nat.le_of_eq (Nat.zero_add _), Nat.le_of_eq (Nat.zero_add _)⟩ (skT_47 hS) ?_
        refine mC_mono (fun r h14 hr => ?_) K
        obtain ⟨x15, rfl, hS, K⟩ := hr
        show mW _ _ _ _ _ _ [.inl x15] _ _
        refine mw_if_eq (pc' := 146) (tgt := 156) dX12_readsSum_143 rfl (by decide) (fun c20 => ?_) (fun c20 => ?_)
        · replace K := K.1 c20
          refine mw_aload_n (pc' := 157) dX12_readsSum_156 rfl rfl ?_
          refine mw_iconst (pc' := 158) (v := 1) dX12_readsSum_157 rfl (by decide) ?_
          refine mw_callV (pc' := 161) (b' := (0, 0)) (b1 := b) (av := [.inl 1]) (rest := []) dX12_readsSum_158 rfl lkX12_279 rfl rfl (Nat.le_of_ble_eq_true rfl) ⟨Nat.le_of_eq (Nat.zero_add _), Nat.le_of_eq (Nat.zero_add _)⟩ (skT_47 hS) ?_
          refine mC_mono (fun r h16 hr => ?_) K
          obtain ⟨rfl, hS, K⟩ := hr
          show mW _ _ _ _ _ _ [] _ _
          refine mw_iconst (pc' := 162) (v := 1) dX12_readsSum_161 rfl (by decide) ?_
          exact mw_iret dX12_readsSum_162 rfl (by decide) K
        · replace K := K.2 c20
          refine mw_aload_n (pc' := 147) dX12_readsSum_146 rfl rfl ?_
          refine mw_iconst (pc' := 148) (v := 1) dX12_readsSum_147 rfl (by decide) ?_
          refine mw_aload_n (pc' := 149) dX12_readsSum_148 rfl rfl ?_
          refine mw_getI (pc' := 152) dX12_readsSum_149 rfl flX12_224 rfl (skT_47 hS) ?_
          refine mw_callV (pc' := 155) (b' := (0, 0)) (b1 := b) (av := [.inl 1, .inl (mI h14 47 13)]) (rest := []) dX12_readsSum_152 rfl lkX12_237 rfl rfl (Nat.le_of_ble_eq_true rfl) ⟨Nat.le_of_eq (Nat.zero_add _), Nat.le_of_eq (Nat.zero_add _)⟩ (skT_47 hS) ?_
          refine mC_mono (fun r h17 hr => ?_) K
          obtain ⟨x18, rfl, hS, K⟩ := hr
          show mW _ _ _ _ _ _ [.inl x18] _ _
          obtain ⟨o19, K⟩ := K
          exact mw_iret dX12_readsSum_155 rfl (m_boolN o19) K
      · replace K := K.2 c25
        refine mw_aload_n (pc' := 101) dX12_readsSum_100 rfl rfl ?_
        refine mw_iconst (pc' := 102) (v := 1) dX12_readsSum_101 rfl (by decide) ?_
        refine mw_callV (pc' := 105) (b' := (0, 0)) (b1 := b) (av := [.inl 1]) (rest := []) dX12_readsSum_102 rfl lkX12_279 rfl rfl (Nat.le_of_ble_eq_true rfl) ⟨Nat.le_of_eq (Nat.zero_add _), Nat.le_of_eq (Nat.zero_add _)⟩ (skT_47 hS) ?_
        refine mC_mono (fun r h21 hr => ?_) K
        obtain ⟨rfl, hS, K⟩ := hr
        show mW _ _ _ _ _ _ [] _ _
        refine mw_aload_n (pc' := 106) dX12_readsSum_105 rfl rfl ?_
        refine mw_aload_n (pc' := 107) dX12_readsSum_106 rfl rfl ?_
        refine mw_getI (pc' := 110) dX12_readsSum_107 rfl flX12_254 rfl (skT_47 hS) ?_
        refine mw_iconst (pc' := 111) (v := 1) dX12_readsSum_110 rfl (by decide) ?_
        refine mw_isub (pc' := 112) dX12_readsSum_111 rfl ?_
        refine mw_putIK (pc' := 115) dX12_readsSum_112 rfl flX12_254 rfl (Or.inl rfl) ⟨rfl, rfl⟩ (skT_47 hS) hS (fun h22 eh22 hS => ?_)
        replace K := K h22 eh22
        refine mw_aload_n (pc' := 116) dX12_readsSum_115 rfl rfl ?_
        refine mw_aload_n (pc' := 117) dX12_readsSum_116 rfl rfl ?_
        refine mw_getI (pc' := 120) dX12_readsSum_117 rfl flX12_251 rfl (skT_47 hS) ?_
        refine mw_iconst (pc' := 121) (v := 1) dX12_readsSum_120 rfl (by decide) ?_
        refine mw_isub (pc' := 122) dX12_readsSum_121 rfl ?_
        refine mw_putIK (pc' := 125) dX12_readsSum_122 rfl flX12_251 rfl (Or.inl rfl) ⟨rfl, rfl⟩ (skT_47 hS) hS (fun h23 eh23 hS => ?_)
        replace K := K h23 eh23
        refine mw_aload_n (pc' := 126) dX12_readsSum_125 rfl rfl ?_
        refine mw_aload_n (pc' := 127) dX12_readsSum_126 rfl rfl ?_
        refine mw_getI (pc' := 130) dX12_readsSum_127 rfl flX12_224 rfl (skT_47 hS) ?_
        refine mw_iconst (pc' := 131) (v := 1) dX12_readsSum_130 rfl (by decide) ?_
        refine mw_iadd (pc' := 132) dX12_readsSum_131 rfl ?_
        refine mw_putIK (pc' := 135) dX12_readsSum_132 rfl flX12_224 rfl (Or.inl rfl) ⟨rfl, rfl⟩ (skT_47 hS) hS (fun h24 eh24 hS => ?_)
        replace K := K h24 eh24
        refine mw_goto (tgt := 163) dX12_readsSum_135 (by decide) ?_
        refine mw_goto (tgt := 14) dX12_readsSum_163 (by decide) ?_
        refine mw_weak (ls' := [some (.inr (some 47)), some (.inl v1), none]) ?_ ?_
        · intro i v hv; match i, hv with
          | 0, hv => exact hv
          | 1, hv => exact hv
          | 2, hv => cases hv
          | n + 3, hv => cases hv
        exact K
  · replace K := K.2 c38
    refine mw_aload_n (pc' := 28) dX12_readsSum_27 rfl rfl ?_
    refine mw_iload_n (pc' := 29) dX12_readsSum_28 rfl rfl ?_
    refine mw_iconst (pc' := 30) (v := 4) dX12_readsSum_29 rfl (by decide) ?_
    have J36 : ∀ w27 : Int32, w27 = (if 4 ≤ (f_X12_sumSign x2) then 0 else 1) → mW G kX12_readsSum (d + 4) b 38 [some (.inr (some 47)), some (.inl v1), some (.inl (f_X12_sumSign x2))] ([.inl w27, .inr (some 47)]) h1 Q := by
      intro w27 ew27
      replace K := K w27 ew27
      refine mw_callV (pc' := 41) (b' := (0, 0)) (b1 := b) (av := [.inl w27]) (rest := []) dX12_readsSum_38 rfl lkX12_279 rfl rfl (Nat.le_of_ble_eq_true rfl) ⟨Nat.le_of_eq (Nat.zero_add _), Nat.le_of_eq (Nat.zero_add _)⟩ (skT_47 hS) ?_
      refine mC_mono (fun r h28 hr => ?_) K
      obtain ⟨rfl, hS, K⟩ := hr
      show mW _ _ _ _ _ _ [] _ _
      refine mw_aload_n (pc' := 42) dX12_readsSum_41 rfl rfl ?_
      refine mw_getR (pc' := 45) dX12_readsSum_42 rfl flX12_45 rfl (skT_47 hS) ?_
      rw [skR_47_23 hS]
      refine mw_aload_n (pc' := 46) dX12_readsSum_45 rfl rfl ?_
      refine mw_getI (pc' := 49) dX12_readsSum_46 rfl flX12_254 rfl (skT_47 hS) ?_
      refine mw_ldc (pc' := 51) dX12_readsSum_49 rfl cnX12_250 ?_
      refine mw_iload_n (pc' := 52) dX12_readsSum_51 rfl rfl ?_
      refine mw_imul (pc' := 53) dX12_readsSum_52 rfl ?_
      obtain ⟨o29, K⟩ := K
      refine mw_iastK (pc' := 54) dX12_readsSum_53 rfl (skT_59 hS) (skL_59 hS) o29 hS (fun h30 eh30 hS => ?_)
      replace K := K h30 eh30
      refine mw_aload_n (pc' := 55) dX12_readsSum_54 rfl rfl ?_
      refine mw_aload_n (pc' := 56) dX12_readsSum_55 rfl rfl ?_
      refine mw_getI (pc' := 59) dX12_readsSum_56 rfl flX12_254 rfl (skT_47 hS) ?_
      refine mw_iconst (pc' := 60) (v := 1) dX12_readsSum_59 rfl (by decide) ?_
      refine mw_iadd (pc' := 61) dX12_readsSum_60 rfl ?_
      refine mw_putIK (pc' := 64) dX12_readsSum_61 rfl flX12_254 rfl (Or.inl rfl) ⟨rfl, rfl⟩ (skT_47 hS) hS (fun h31 eh31 hS => ?_)
      replace K := K h31 eh31
      refine mw_aload_n (pc' := 65) dX12_readsSum_64 rfl rfl ?_
      refine mw_aload_n (pc' := 66) dX12_readsSum_65 rfl rfl ?_
      refine mw_getI (pc' := 69) dX12_readsSum_66 rfl flX12_224 rfl (skT_47 hS) ?_
      refine mw_iconst (pc' := 70) (v := 1) dX12_readsSum_69 rfl (by decide) ?_
      refine mw_iadd (pc' := 71) dX12_readsSum_70 rfl ?_
      refine mw_putIK (pc' := 74) dX12_readsSum_71 rfl flX12_224 rfl (Or.inl rfl) ⟨rfl, rfl⟩ (skT_47 hS) hS (fun h32 eh32 hS => ?_)
      replace K := K h32 eh32
      refine mw_aload_n (pc' := 75) dX12_readsSum_74 rfl rfl ?_
      refine mw_callV (pc' := 78) (b' := (0, 0)) (b1 := b) (av := []) (rest := []) dX12_readsSum_75 rfl lkX12_273 rfl rfl (Nat.le_of_ble_eq_true rfl) ⟨Nat.le_of_eq (Nat.zero_add _), Nat.le_of_eq (Nat.zero_add _)⟩ (skT_47 hS) ?_
      refine mC_mono (fun r h33 hr => ?_) K
      obtain ⟨x34, rfl, hS, K⟩ := hr
      show mW _ _ _ _ _ _ [.inl x34] _ _
      refine mw_if_ne (pc' := 81) (tgt := 163) dX12_readsSum_78 rfl (by decide) (fun c35 => ?_) (fun c35 => ?_)
      · replace K := K.1 c35
        refine mw_goto (tgt := 14) dX12_readsSum_163 (by decide) ?_
        refine mw_weak (ls' := [some (.inr (some 47)), some (.inl v1), none]) ?_ ?_
        · intro i v hv; match i, hv with
          | 0, hv => exact hv
          | 1, hv => exact hv
          | 2, hv => cases hv
          | n + 3, hv => cases hv
        exact K
      · replace K := K.2 c35
        refine mw_iconst (pc' := 82) (v := 0) dX12_readsSum_81 rfl (by decide) ?_
        exact mw_iret dX12_readsSum_82 rfl (by decide) K
    refine mw_icmp_ge (pc' := 33) (tgt := 37) dX12_readsSum_30 rfl (by decide) (fun c37 => ?_) (fun c37 => ?_)
    · refine mw_iconst (pc' := 38) (v := 0) dX12_readsSum_37 rfl (by decide) ?_
      exact J36 _ (by rw [if_pos c37])
    · refine mw_iconst (pc' := 34) (v := 1) dX12_readsSum_33 rfl (by decide) ?_
      refine mw_goto (tgt := 38) dX12_readsSum_34 (by decide) ?_
      exact J36 _ (by rw [if_neg c37])

set_option maxRecDepth 100000 in
set_option maxHeartbeats 4000000 in
theorem qX12_endsPiece {G : mG} {d : Nat} {b : Nat × Nat} {h : mH} {Q : Option mV → mH → Prop}  (hS : mSk h)
    (K : mW G kX12_endsPiece (d + 1) b 0 [some (.inr (some 47))] [] h Q) : mC G kX12_endsPiece (d + 1) b [.inr (some 47)] h Q := by
  refine mC_in rfl (Nat.le_of_ble_eq_true rfl) ?_
  show mW _ _ _ _ _ [some (.inr (some 47))] _ _ _
  exact K

set_option maxRecDepth 100000 in
set_option maxHeartbeats 4000000 in
theorem qX12_endsPiece_0 {G : mG} {d : Nat} {b : Nat × Nat} {h : mH} {Q : Option mV → mH → Prop}  (hS : mSk h)
    (K : mC G kX12_top d (0, 0) [.inr (some 47)] h (fun r h1 => ∃ x2, r = some (.inl x2) ∧ mSk h1 ∧ ((¬ x2 = 10 → Q none h1) ∧ (x2 = 10 → mC G kX12_notes d (0, 0) [.inr (some 47), .inl 10, .inl 0] h1 (fun r h3 => r = none ∧ mSk h3 ∧ ∀ h4, h4 = mSI h3 47 18 ((mI h3 47 18) - 1) → ∀ h5, h5 = mSI h4 47 16 ((mI h4 47 16) - 1) → mW G kX12_endsPiece (d + 1) b 0 [some (.inr (some 47))] [] h5 Q))))) : mW G kX12_endsPiece (d + 1) b 0 [some (.inr (some 47))] [] h Q := by
  refine mw_aload_n (pc' := 1) dX12_endsPiece_0 rfl rfl ?_
  refine mw_callV (pc' := 4) (b' := (0, 0)) (b1 := b) (av := []) (rest := []) dX12_endsPiece_1 rfl lkX12_257 rfl rfl (Nat.le_of_ble_eq_true rfl) ⟨Nat.le_of_eq (Nat.zero_add _), Nat.le_of_eq (Nat.zero_add _)⟩ (skT_47 hS) ?_
  refine mC_mono (fun r h1 hr => ?_) K
  obtain ⟨x2, rfl, hS, K⟩ := hr
  show mW _ _ _ _ _ _ [.inl x2] _ _
  refine mw_bipush (pc' := 6) (v := 10) dX12_endsPiece_4 rfl (by decide) ?_
  refine mw_icmp_ne (pc' := 9) (tgt := 39) dX12_endsPiece_6 rfl (by decide) (fun c6 => ?_) (fun c6 => ?_)
  · replace K := K.1 c6
    exact mw_ret dX12_endsPiece_39 rfl K
  · replace K := K.2 c6
    refine mw_aload_n (pc' := 10) dX12_endsPiece_9 rfl rfl ?_
    refine mw_bipush (pc' := 12) (v := 10) dX12_endsPiece_10 rfl (by decide) ?_
    refine mw_iconst (pc' := 13) (v := 0) dX12_endsPiece_12 rfl (by decide) ?_
    refine mw_callV (pc' := 16) (b' := (0, 0)) (b1 := b) (av := [.inl 10, .inl 0]) (rest := []) dX12_endsPiece_13 rfl lkX12_260 rfl rfl (Nat.le_of_ble_eq_true rfl) ⟨Nat.le_of_eq (Nat.zero_add _), Nat.le_of_eq (Nat.zero_add _)⟩ (skT_47 hS) ?_
    refine mC_mono (fun r h3 hr => ?_) K
    obtain ⟨rfl, hS, K⟩ := hr
    show mW _ _ _ _ _ _ [] _ _
    refine mw_aload_n (pc' := 17) dX12_endsPiece_16 rfl rfl ?_
    refine mw_aload_n (pc' := 18) dX12_endsPiece_17 rfl rfl ?_
    refine mw_getI (pc' := 21) dX12_endsPiece_18 rfl flX12_254 rfl (skT_47 hS) ?_
    refine mw_iconst (pc' := 22) (v := 1) dX12_endsPiece_21 rfl (by decide) ?_
    refine mw_isub (pc' := 23) dX12_endsPiece_22 rfl ?_
    refine mw_putIK (pc' := 26) dX12_endsPiece_23 rfl flX12_254 rfl (Or.inl rfl) ⟨rfl, rfl⟩ (skT_47 hS) hS (fun h4 eh4 hS => ?_)
    replace K := K h4 eh4
    refine mw_aload_n (pc' := 27) dX12_endsPiece_26 rfl rfl ?_
    refine mw_aload_n (pc' := 28) dX12_endsPiece_27 rfl rfl ?_
    refine mw_getI (pc' := 31) dX12_endsPiece_28 rfl flX12_251 rfl (skT_47 hS) ?_
    refine mw_iconst (pc' := 32) (v := 1) dX12_endsPiece_31 rfl (by decide) ?_
    refine mw_isub (pc' := 33) dX12_endsPiece_32 rfl ?_
    refine mw_putIK (pc' := 36) dX12_endsPiece_33 rfl flX12_251 rfl (Or.inl rfl) ⟨rfl, rfl⟩ (skT_47 hS) hS (fun h5 eh5 hS => ?_)
    replace K := K h5 eh5
    refine mw_goto (tgt := 0) dX12_endsPiece_36 (by decide) ?_
    exact K
