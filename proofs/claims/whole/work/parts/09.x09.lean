set_option maxRecDepth 100000 in
set_option maxHeartbeats 4000000 in
theorem qX9_put {G : mG} {d : Nat} {b : Nat × Nat} {h : mH} {Q : Option mV → mH → Prop} (v1 : Int32) (hS : mSk h)
    (K : mW G kX9_put d b 3 [some (.inr (some 9)), some (.inl v1), some (.inl 24)] [] h Q) : mC G kX9_put d b [.inr (some 9), .inl v1] h Q := by
  refine mC_in rfl (Nat.le_of_ble_eq_true rfl) ?_
  show mW _ _ _ _ _ [some (.inr (some 9)), some (.inl v1), none] _ _ _
  refine mw_bipush (pc' := 2) (v := 24) dX9_put_0 rfl (by decide) ?_
  refine mw_istore_n (pc' := 3) dX9_put_2 rfl (by decide) ?_
  show mW _ _ _ _ _ [some (.inr (some 9)), some (.inl v1), some (.inl 24)] _ _ _
  exact K

set_option maxRecDepth 100000 in
set_option maxHeartbeats 4000000 in
theorem qX9_put_3 {G : mG} {d : Nat} {b : Nat × Nat} {h : mH} {Q : Option mV → mH → Prop} (v1 : Int32) (v2 : Int32) (hS : mSk h)
    (K : ((v2 < 0 → Q none h) ∧ (¬ (v2 < 0) → (((nI 220) ≤ (mI h 9 1) → Q none h) ∧ (¬ ((nI 220) ≤ (mI h 9 1)) → vp_in (mI h 9 1) 220 ∧ ∀ h2, h2 = mSI h 10 (mI h 9 1).toNatClampNeg ((m_ushr v1 v2) &&& 255) → ∀ h3, h3 = mSI h2 9 1 ((mI h2 9 1) + 1) → mW G kX9_put d b 3 [some (.inr (some 9)), some (.inl v1), some (.inl (v2 + (-8)))] [] h3 Q))))) : mW G kX9_put d b 3 [some (.inr (some 9)), some (.inl v1), some (.inl v2)] [] h Q := by
  refine mw_iload_n (pc' := 4) dX9_put_3 rfl rfl ?_
  refine mw_if_lt (pc' := 7) (tgt := 51) dX9_put_4 rfl (by decide) (fun c5 => ?_) (fun c5 => ?_)
  · replace K := K.1 c5
    exact mw_ret dX9_put_51 rfl K
  · replace K := K.2 c5
    refine mw_aload_n (pc' := 8) dX9_put_7 rfl rfl ?_
    refine mw_getI (pc' := 11) dX9_put_8 rfl flX9_15 rfl (skT_9 hS) ?_
    refine mw_aload_n (pc' := 12) dX9_put_11 rfl rfl ?_
    refine mw_getR (pc' := 15) dX9_put_12 rfl flX9_9 rfl (skT_9 hS) ?_
    rw [skR_9_0 hS]
    refine mw_alen (pc' := 16) (t := 0) dX9_put_15 rfl (by decide) (skT_10 hS) ?_
    rw [skL_10 hS]
    refine mw_icmp_ge (pc' := 19) (tgt := 51) dX9_put_16 rfl (by decide) (fun c4 => ?_) (fun c4 => ?_)
    · replace K := K.1 c4
      exact mw_ret dX9_put_51 rfl K
    · replace K := K.2 c4
      refine mw_aload_n (pc' := 20) dX9_put_19 rfl rfl ?_
      refine mw_getR (pc' := 23) dX9_put_20 rfl flX9_9 rfl (skT_9 hS) ?_
      rw [skR_9_0 hS]
      refine mw_aload_n (pc' := 24) dX9_put_23 rfl rfl ?_
      refine mw_getI (pc' := 27) dX9_put_24 rfl flX9_15 rfl (skT_9 hS) ?_
      refine mw_iload_n (pc' := 28) dX9_put_27 rfl rfl ?_
      refine mw_iload_n (pc' := 29) dX9_put_28 rfl rfl ?_
      refine mw_iushrM (pc' := 30) dX9_put_29 rfl ?_
      refine mw_sipush (pc' := 33) (v := 255) dX9_put_30 rfl (by decide) ?_
      refine mw_iand (pc' := 34) dX9_put_33 rfl ?_
      obtain ⟨o1, K⟩ := K
      refine mw_iastK (pc' := 35) dX9_put_34 rfl (skT_10 hS) (skL_10 hS) o1 hS (fun h2 eh2 hS => ?_)
      replace K := K h2 eh2
      refine mw_aload_n (pc' := 36) dX9_put_35 rfl rfl ?_
      refine mw_dup (pc' := 37) dX9_put_36 rfl ?_
      refine mw_getI (pc' := 40) dX9_put_37 rfl flX9_15 rfl (skT_9 hS) ?_
      refine mw_iconst (pc' := 41) (v := 1) dX9_put_40 rfl (by decide) ?_
      refine mw_iadd (pc' := 42) dX9_put_41 rfl ?_
      refine mw_putIK (pc' := 45) dX9_put_42 rfl flX9_15 rfl (Or.inl rfl) ⟨rfl, rfl⟩ (skT_9 hS) hS (fun h3 eh3 hS => ?_)
      replace K := K h3 eh3
      refine mw_iinc (pc' := 48) (v := v2 + (-8)) dX9_put_45 rfl (by decide) rfl rfl ?_
      show mW _ _ _ _ _ [some (.inr (some 9)), some (.inl v1), some (.inl (v2 + (-8)))] _ _ _
      refine mw_goto (tgt := 3) dX9_put_48 (by decide) ?_
      exact K

set_option maxRecDepth 100000 in
set_option maxHeartbeats 4000000 in
theorem qX9_at {G : mG} {d : Nat} {b : Nat × Nat} {h : mH} {Q : Option mV → mH → Prop} (v1 : Int32) (hS : mSk h)
    (K : ((v1 < 0 → Q (some (.inl (-1))) h) ∧ (¬ (v1 < 0) → (((mI h 9 1) ≤ v1 → Q (some (.inl (-1))) h) ∧ (¬ ((mI h 9 1) ≤ v1) → vp_in v1 220 ∧ Q (some (.inl (mI h 10 v1.toNatClampNeg))) h))))) : mC G kX9_at d b [.inr (some 9), .inl v1] h Q := by
  refine mC_in rfl (Nat.le_of_ble_eq_true rfl) ?_
  show mW _ _ _ _ _ [some (.inr (some 9)), some (.inl v1)] _ _ _
  refine mw_iload_n (pc' := 1) dX9_at_0 rfl rfl ?_
  refine mw_if_lt (pc' := 4) (tgt := 21) dX9_at_1 rfl (by decide) (fun c3 => ?_) (fun c3 => ?_)
  · replace K := K.1 c3
    refine mw_iconst (pc' := 22) (v := (-1)) dX9_at_21 rfl (by decide) ?_
    exact mw_iret dX9_at_22 rfl rfl K
  · replace K := K.2 c3
    refine mw_iload_n (pc' := 5) dX9_at_4 rfl rfl ?_
    refine mw_aload_n (pc' := 6) dX9_at_5 rfl rfl ?_
    refine mw_getI (pc' := 9) dX9_at_6 rfl flX9_15 rfl (skT_9 hS) ?_
    refine mw_icmp_ge (pc' := 12) (tgt := 21) dX9_at_9 rfl (by decide) (fun c2 => ?_) (fun c2 => ?_)
    · replace K := K.1 c2
      refine mw_iconst (pc' := 22) (v := (-1)) dX9_at_21 rfl (by decide) ?_
      exact mw_iret dX9_at_22 rfl rfl K
    · replace K := K.2 c2
      refine mw_aload_n (pc' := 13) dX9_at_12 rfl rfl ?_
      refine mw_getR (pc' := 16) dX9_at_13 rfl flX9_9 rfl (skT_9 hS) ?_
      rw [skR_9_0 hS]
      refine mw_iload_n (pc' := 17) dX9_at_16 rfl rfl ?_
      obtain ⟨o1, K⟩ := K
      refine mw_ialdL (pc' := 18) dX9_at_17 rfl (skT_10 hS) (skL_10 hS) o1 ?_
      refine mw_goto (tgt := 22) dX9_at_18 (by decide) ?_
      exact mw_iret dX9_at_22 rfl rfl K

set_option maxRecDepth 100000 in
set_option maxHeartbeats 4000000 in
theorem qX9_number {G : mG} {d : Nat} {b : Nat × Nat} {h : mH} {Q : Option mV → mH → Prop} (v1 : Int32) (hS : mSk h)
    (K : mC G kX9_at d (0, 0) [.inr (some 9), .inl (4 * v1)] h (fun r h1 => ∃ x2, r = some (.inl x2) ∧ mSk h1 ∧ mC G kX9_at d (0, 0) [.inr (some 9), .inl ((4 * v1) + 1)] h1 (fun r h3 => ∃ x4, r = some (.inl x4) ∧ mSk h3 ∧ mC G kX9_at d (0, 0) [.inr (some 9), .inl ((4 * v1) + 2)] h3 (fun r h5 => ∃ x6, r = some (.inl x6) ∧ mSk h5 ∧ mC G kX9_at d (0, 0) [.inr (some 9), .inl ((4 * v1) + 3)] h5 (fun r h7 => ∃ x8, r = some (.inl x8) ∧ mSk h7 ∧ Q (some (.inl ((((m_shl x2 24) ||| (m_shl x4 16)) ||| (m_shl x6 8)) ||| x8))) h7))))) : mC G kX9_number (d + 1) b [.inr (some 9), .inl v1] h Q := by
  refine mC_in rfl (Nat.le_of_ble_eq_true rfl) ?_
  show mW _ _ _ _ _ [some (.inr (some 9)), some (.inl v1), none] _ _ _
  refine mw_iconst (pc' := 1) (v := 4) dX9_number_0 rfl (by decide) ?_
  refine mw_iload_n (pc' := 2) dX9_number_1 rfl rfl ?_
  refine mw_imul (pc' := 3) dX9_number_2 rfl ?_
  refine mw_istore_n (pc' := 4) dX9_number_3 rfl (by decide) ?_
  show mW _ _ _ _ _ [some (.inr (some 9)), some (.inl v1), some (.inl (4 * v1))] _ _ _
  refine mw_aload_n (pc' := 5) dX9_number_4 rfl rfl ?_
  refine mw_iload_n (pc' := 6) dX9_number_5 rfl rfl ?_
  refine mw_callV (pc' := 9) (b' := (0, 0)) (b1 := b) (av := [.inl (4 * v1)]) (rest := []) dX9_number_6 rfl lkX9_19 rfl rfl (Nat.le_of_ble_eq_true rfl) ⟨Nat.le_of_eq (Nat.zero_add _), Nat.le_of_eq (Nat.zero_add _)⟩ (skT_9 hS) ?_
  refine mC_mono (fun r h1 hr => ?_) K
  obtain ⟨x2, rfl, hS, K⟩ := hr
  show mW _ _ _ _ _ _ [.inl x2] _ _
  refine mw_bipush (pc' := 11) (v := 24) dX9_number_9 rfl (by decide) ?_
  refine mw_ishlM (pc' := 12) dX9_number_11 rfl ?_
  refine mw_aload_n (pc' := 13) dX9_number_12 rfl rfl ?_
  refine mw_iload_n (pc' := 14) dX9_number_13 rfl rfl ?_
  refine mw_iconst (pc' := 15) (v := 1) dX9_number_14 rfl (by decide) ?_
  refine mw_iadd (pc' := 16) dX9_number_15 rfl ?_
  refine mw_callV (pc' := 19) (b' := (0, 0)) (b1 := b) (av := [.inl ((4 * v1) + 1)]) (rest := [.inl (m_shl x2 24)]) dX9_number_16 rfl lkX9_19 rfl rfl (Nat.le_of_ble_eq_true rfl) ⟨Nat.le_of_eq (Nat.zero_add _), Nat.le_of_eq (Nat.zero_add _)⟩ (skT_9 hS) ?_
  refine mC_mono (fun r h3 hr => ?_) K
  obtain ⟨x4, rfl, hS, K⟩ := hr
  show mW _ _ _ _ _ _ [.inl x4, .inl (m_shl x2 24)] _ _
  refine mw_bipush (pc' := 21) (v := 16) dX9_number_19 rfl (by decide) ?_
  refine mw_ishlM (pc' := 22) dX9_number_21 rfl ?_
  refine mw_ior (pc' := 23) dX9_number_22 rfl ?_
  refine mw_aload_n (pc' := 24) dX9_number_23 rfl rfl ?_
  refine mw_iload_n (pc' := 25) dX9_number_24 rfl rfl ?_
  refine mw_iconst (pc' := 26) (v := 2) dX9_number_25 rfl (by decide) ?_
  refine mw_iadd (pc' := 27) dX9_number_26 rfl ?_
  refine mw_callV (pc' := 30) (b' := (0, 0)) (b1 := b) (av := [.inl ((4 * v1) + 2)]) (rest := [.inl ((m_shl x2 24) ||| (m_shl x4 16))]) dX9_number_27 rfl lkX9_19 rfl rfl (Nat.le_of_ble_eq_true rfl) ⟨Nat.le_of_eq (Nat.zero_add _), Nat.le_of_eq (Nat.zero_add _)⟩ (skT_9 hS) ?_
  refine mC_mono (fun r h5 hr => ?_) K
  obtain ⟨x6, rfl, hS, K⟩ := hr
  show mW _ _ _ _ _ _ [.inl x6, .inl ((m_shl x2 24) ||| (m_shl x4 16))] _ _
  refine mw_bipush (pc' := 32) (v := 8) dX9_number_30 rfl (by decide) ?_
  refine mw_ishlM (pc' := 33) dX9_number_32 rfl ?_
  refine mw_ior (pc' := 34) dX9_number_33 rfl ?_
  refine mw_aload_n (pc' := 35) dX9_number_34 rfl rfl ?_
  refine mw_iload_n (pc' := 36) dX9_number_35 rfl rfl ?_
  refine mw_iconst (pc' := 37) (v := 3) dX9_number_36 rfl (by decide) ?_
  refine mw_iadd (pc' := 38) dX9_number_37 rfl ?_
  refine mw_callV (pc' := 41) (b' := (0, 0)) (b1 := b) (av := [.inl ((4 * v1) + 3)]) (rest := [.inl (((m_shl x2 24) ||| (m_shl x4 16)) ||| (m_shl x6 8))]) dX9_number_38 rfl lkX9_19 rfl rfl (Nat.le_of_ble_eq_true rfl) ⟨Nat.le_of_eq (Nat.zero_add _), Nat.le_of_eq (Nat.zero_add _)⟩ (skT_9 hS) ?_
  refine mC_mono (fun r h7 hr => ?_) K
  obtain ⟨x8, rfl, hS, K⟩ := hr
  show mW _ _ _ _ _ _ [.inl x8, .inl (((m_shl x2 24) ||| (m_shl x4 16)) ||| (m_shl x6 8))] _ _
  refine mw_ior (pc' := 42) dX9_number_41 rfl ?_
  exact mw_iret dX9_number_42 rfl rfl K

set_option maxRecDepth 100000 in
set_option maxHeartbeats 4000000 in
theorem qX9_badCoastPlace {G : mG} {d : Nat} {b : Nat × Nat} {h : mH} {Q : Option mV → mH → Prop} (v1 : Int32) (hS : mSk h)
    (K : mW G kX9_badCoastPlace (d + 2) b 2 [some (.inr (some 9)), some (.inl v1), some (.inl 0), none] [] h Q) : mC G kX9_badCoastPlace (d + 2) b [.inr (some 9), .inl v1] h Q := by
  refine mC_in rfl (Nat.le_of_ble_eq_true rfl) ?_
  show mW _ _ _ _ _ [some (.inr (some 9)), some (.inl v1), none, none] _ _ _
  refine mw_iconst (pc' := 1) (v := 0) dX9_badCoastPlace_0 rfl (by decide) ?_
  refine mw_istore_n (pc' := 2) dX9_badCoastPlace_1 rfl (by decide) ?_
  show mW _ _ _ _ _ [some (.inr (some 9)), some (.inl v1), some (.inl 0), none] _ _ _
  exact K

set_option maxRecDepth 100000 in
set_option maxHeartbeats 4000000 in
theorem qX9_badCoastPlace_2 {G : mG} {d : Nat} {b : Nat × Nat} {h : mH} {Q : Option mV → mH → Prop} (v1 : Int32) (v2 : Int32) (hS : mSk h)
    (K : ((v1 ≤ v2 → mW G kX9_badCoastPlace (d + 2) b 98 [some (.inr (some 9)), some (.inl v1), some (.inl (2 * v1)), none] [] h Q) ∧ (¬ (v1 ≤ v2) → mC G kX9_at (d + 1) (0, 0) [.inr (some 9), .inl (2 * v2)] h (fun r h1 => ∃ x2, r = some (.inl x2) ∧ mSk h1 ∧ ((x2 ≤ 32 → mC G kX9_at (d + 1) (0, 0) [.inr (some 9), .inl ((2 * v2) + 1)] h1 (fun r h3 => ∃ x4, r = some (.inl x4) ∧ mSk h3 ∧ ((x4 ≤ 32 → ((v2 = 0 → (((1 : Int32) = 0 → Q (some (.inl (2 * v2))) h3) ∧ (¬ (1 : Int32) = 0 → ((¬ v2 = (v1 - 1) → mW G kX9_badCoastPlace (d + 2) b 2 [some (.inr (some 9)), some (.inl v1), some (.inl (v2 + 1)), none] [] h3 Q) ∧ (v2 = (v1 - 1) → mC G kX9_joins (d + 1) (0, 0) [.inr (some 9), .inl v2, .inl 0] h3 (fun r h5 => ∃ x6, r = some (.inl x6) ∧ mSk h5 ∧ ((¬ x6 = 0 → mW G kX9_badCoastPlace (d + 2) b 2 [some (.inr (some 9)), some (.inl v1), some (.inl (v2 + 1)), none] [] h5 Q) ∧ (x6 = 0 → Q (some (.inl (2 * v2))) h5)))))))) ∧ (¬ v2 = 0 → mC G kX9_joins (d + 1) (0, 0) [.inr (some 9), .inl (v2 - 1), .inl v2] h3 (fun r h10 => ∃ x11, r = some (.inl x11) ∧ mSk h10 ∧ ∀ w12 : Int32, w12 = (if x11 = 0 then 0 else 1) → ((w12 = 0 → Q (some (.inl (2 * v2))) h10) ∧ (¬ w12 = 0 → ((¬ v2 = (v1 - 1) → mW G kX9_badCoastPlace (d + 2) b 2 [some (.inr (some 9)), some (.inl v1), some (.inl (v2 + 1)), none] [] h10 Q) ∧ (v2 = (v1 - 1) → mC G kX9_joins (d + 1) (0, 0) [.inr (some 9), .inl v2, .inl 0] h10 (fun r h13 => ∃ x14, r = some (.inl x14) ∧ mSk h13 ∧ ((¬ x14 = 0 → mW G kX9_badCoastPlace (d + 2) b 2 [some (.inr (some 9)), some (.inl v1), some (.inl (v2 + 1)), none] [] h13 Q) ∧ (x14 = 0 → Q (some (.inl (2 * v2))) h13))))))))))) ∧ (¬ (x4 ≤ 32) → Q (some (.inl ((2 * v2) + 1))) h3)))) ∧ (¬ (x2 ≤ 32) → Q (some (.inl (2 * v2))) h1)))))) : mW G kX9_badCoastPlace (d + 2) b 2 [some (.inr (some 9)), some (.inl v1), some (.inl v2), none] [] h Q := by
  refine mw_iload_n (pc' := 3) dX9_badCoastPlace_2 rfl rfl ?_
  refine mw_iload_n (pc' := 4) dX9_badCoastPlace_3 rfl rfl ?_
  refine mw_icmp_ge (pc' := 7) (tgt := 94) dX9_badCoastPlace_4 rfl (by decide) (fun c23 => ?_) (fun c23 => ?_)
  · replace K := K.1 c23
    refine mw_iconst (pc' := 95) (v := 2) dX9_badCoastPlace_94 rfl (by decide) ?_
    refine mw_iload_n (pc' := 96) dX9_badCoastPlace_95 rfl rfl ?_
    refine mw_imul (pc' := 97) dX9_badCoastPlace_96 rfl ?_
    refine mw_istore_n (pc' := 98) dX9_badCoastPlace_97 rfl (by decide) ?_
    show mW _ _ _ _ _ [some (.inr (some 9)), some (.inl v1), some (.inl (2 * v1)), none] _ _ _
    exact K
  · replace K := K.2 c23
    refine mw_aload_n (pc' := 8) dX9_badCoastPlace_7 rfl rfl ?_
    refine mw_iconst (pc' := 9) (v := 2) dX9_badCoastPlace_8 rfl (by decide) ?_
    refine mw_iload_n (pc' := 10) dX9_badCoastPlace_9 rfl rfl ?_
    refine mw_imul (pc' := 11) dX9_badCoastPlace_10 rfl ?_
    refine mw_callV (pc' := 14) (b' := (0, 0)) (b1 := b) (av := [.inl (2 * v2)]) (rest := []) dX9_badCoastPlace_11 rfl lkX9_19 rfl rfl (Nat.le_of_ble_eq_true rfl) ⟨Nat.le_of_eq (Nat.zero_add _), Nat.le_of_eq (Nat.zero_add _)⟩ (skT_9 hS) ?_
    refine mC_mono (fun r h1 hr => ?_) K
    obtain ⟨x2, rfl, hS, K⟩ := hr
    show mW _ _ _ _ _ _ [.inl x2] _ _
    refine mw_bipush (pc' := 16) (v := 32) dX9_badCoastPlace_14 rfl (by decide) ?_
    refine mw_icmp_le (pc' := 19) (tgt := 23) dX9_badCoastPlace_16 rfl (by decide) (fun c22 => ?_) (fun c22 => ?_)
    · replace K := K.1 c22
      refine mw_aload_n (pc' := 24) dX9_badCoastPlace_23 rfl rfl ?_
      refine mw_iconst (pc' := 25) (v := 2) dX9_badCoastPlace_24 rfl (by decide) ?_
      refine mw_iload_n (pc' := 26) dX9_badCoastPlace_25 rfl rfl ?_
      refine mw_imul (pc' := 27) dX9_badCoastPlace_26 rfl ?_
      refine mw_iconst (pc' := 28) (v := 1) dX9_badCoastPlace_27 rfl (by decide) ?_
      refine mw_iadd (pc' := 29) dX9_badCoastPlace_28 rfl ?_
      refine mw_callV (pc' := 32) (b' := (0, 0)) (b1 := b) (av := [.inl ((2 * v2) + 1)]) (rest := []) dX9_badCoastPlace_29 rfl lkX9_19 rfl rfl (Nat.le_of_ble_eq_true rfl) ⟨Nat.le_of_eq (Nat.zero_add _), Nat.le_of_eq (Nat.zero_add _)⟩ (skT_9 hS) ?_
      refine mC_mono (fun r h3 hr => ?_) K
      obtain ⟨x4, rfl, hS, K⟩ := hr
      show mW _ _ _ _ _ _ [.inl x4] _ _
      refine mw_bipush (pc' := 34) (v := 32) dX9_badCoastPlace_32 rfl (by decide) ?_
      refine mw_icmp_le (pc' := 37) (tgt := 43) dX9_badCoastPlace_34 rfl (by decide) (fun c21 => ?_) (fun c21 => ?_)
      · replace K := K.1 c21
        refine mw_iload_n (pc' := 44) dX9_badCoastPlace_43 rfl rfl ?_
        refine mw_if_eq (pc' := 47) (tgt := 58) dX9_badCoastPlace_44 rfl (by decide) (fun c20 => ?_) (fun c20 => ?_)
        · replace K := K.1 c20
          refine mw_iconst (pc' := 59) (v := 1) dX9_badCoastPlace_58 rfl (by decide) ?_
          refine mw_goto (tgt := 63) dX9_badCoastPlace_59 (by decide) ?_
          refine mw_istore_n (pc' := 64) dX9_badCoastPlace_63 rfl (by decide) ?_
          show mW _ _ _ _ _ [some (.inr (some 9)), some (.inl v1), some (.inl v2), some (.inl 1)] _ _ _
          refine mw_iload_n (pc' := 65) dX9_badCoastPlace_64 rfl rfl ?_
          refine mw_if_eq (pc' := 68) (tgt := 84) dX9_badCoastPlace_65 rfl (by decide) (fun c9 => ?_) (fun c9 => ?_)
          · replace K := K.1 c9
            refine mw_iconst (pc' := 85) (v := 2) dX9_badCoastPlace_84 rfl (by decide) ?_
            refine mw_iload_n (pc' := 86) dX9_badCoastPlace_85 rfl rfl ?_
            refine mw_imul (pc' := 87) dX9_badCoastPlace_86 rfl ?_
            exact mw_iret dX9_badCoastPlace_87 rfl rfl K
          · replace K := K.2 c9
            refine mw_iload_n (pc' := 69) dX9_badCoastPlace_68 rfl rfl ?_
            refine mw_iload_n (pc' := 70) dX9_badCoastPlace_69 rfl rfl ?_
            refine mw_iconst (pc' := 71) (v := 1) dX9_badCoastPlace_70 rfl (by decide) ?_
            refine mw_isub (pc' := 72) dX9_badCoastPlace_71 rfl ?_
            refine mw_icmp_ne (pc' := 75) (tgt := 88) dX9_badCoastPlace_72 rfl (by decide) (fun c8 => ?_) (fun c8 => ?_)
            · replace K := K.1 c8
              refine mw_iinc (pc' := 91) (v := v2 + 1) dX9_badCoastPlace_88 rfl (by decide) rfl rfl ?_
              show mW _ _ _ _ _ [some (.inr (some 9)), some (.inl v1), some (.inl (v2 + 1)), some (.inl 1)] _ _ _
              refine mw_goto (tgt := 2) dX9_badCoastPlace_91 (by decide) ?_
              refine mw_weak (ls' := [some (.inr (some 9)), some (.inl v1), some (.inl (v2 + 1)), none]) ?_ ?_
              · intro i v hv; match i, hv with
                | 0, hv => exact hv
                | 1, hv => exact hv
                | 2, hv => exact hv
                | 3, hv => cases hv
                | n + 4, hv => cases hv
              exact K
            · replace K := K.2 c8
              refine mw_aload_n (pc' := 76) dX9_badCoastPlace_75 rfl rfl ?_
              refine mw_iload_n (pc' := 77) dX9_badCoastPlace_76 rfl rfl ?_
              refine mw_iconst (pc' := 78) (v := 0) dX9_badCoastPlace_77 rfl (by decide) ?_
              refine mw_callV (pc' := 81) (b' := (0, 0)) (b1 := b) (av := [.inl v2, .inl 0]) (rest := []) dX9_badCoastPlace_78 rfl lkX9_23 rfl rfl (Nat.le_of_ble_eq_true rfl) ⟨Nat.le_of_eq (Nat.zero_add _), Nat.le_of_eq (Nat.zero_add _)⟩ (skT_9 hS) ?_
              refine mC_mono (fun r h5 hr => ?_) K
              obtain ⟨x6, rfl, hS, K⟩ := hr
              show mW _ _ _ _ _ _ [.inl x6] _ _
              refine mw_if_ne (pc' := 84) (tgt := 88) dX9_badCoastPlace_81 rfl (by decide) (fun c7 => ?_) (fun c7 => ?_)
              · replace K := K.1 c7
                refine mw_iinc (pc' := 91) (v := v2 + 1) dX9_badCoastPlace_88 rfl (by decide) rfl rfl ?_
                show mW _ _ _ _ _ [some (.inr (some 9)), some (.inl v1), some (.inl (v2 + 1)), some (.inl 1)] _ _ _
                refine mw_goto (tgt := 2) dX9_badCoastPlace_91 (by decide) ?_
                refine mw_weak (ls' := [some (.inr (some 9)), some (.inl v1), some (.inl (v2 + 1)), none]) ?_ ?_
                · intro i v hv; match i, hv with
                  | 0, hv => exact hv
                  | 1, hv => exact hv
                  | 2, hv => exact hv
                  | 3, hv => cases hv
                  | n + 4, hv => cases hv
                exact K
              · replace K := K.2 c7
                refine mw_iconst (pc' := 85) (v := 2) dX9_badCoastPlace_84 rfl (by decide) ?_
                refine mw_iload_n (pc' := 86) dX9_badCoastPlace_85 rfl rfl ?_
                refine mw_imul (pc' := 87) dX9_badCoastPlace_86 rfl ?_
                exact mw_iret dX9_badCoastPlace_87 rfl rfl K
        · replace K := K.2 c20
          refine mw_aload_n (pc' := 48) dX9_badCoastPlace_47 rfl rfl ?_
          refine mw_iload_n (pc' := 49) dX9_badCoastPlace_48 rfl rfl ?_
          refine mw_iconst (pc' := 50) (v := 1) dX9_badCoastPlace_49 rfl (by decide) ?_
          refine mw_isub (pc' := 51) dX9_badCoastPlace_50 rfl ?_
          refine mw_iload_n (pc' := 52) dX9_badCoastPlace_51 rfl rfl ?_
          refine mw_callV (pc' := 55) (b' := (0, 0)) (b1 := b) (av := [.inl (v2 - 1), .inl v2]) (rest := []) dX9_badCoastPlace_52 rfl lkX9_23 rfl rfl (Nat.le_of_ble_eq_true rfl) ⟨Nat.le_of_eq (Nat.zero_add _), Nat.le_of_eq (Nat.zero_add _)⟩ (skT_9 hS) ?_
          refine mC_mono (fun r h10 hr => ?_) K
          obtain ⟨x11, rfl, hS, K⟩ := hr
          show mW _ _ _ _ _ _ [.inl x11] _ _
          have J18 : ∀ w12 : Int32, w12 = (if x11 = 0 then 0 else 1) → mW G kX9_badCoastPlace (d + 2) b 63 [some (.inr (some 9)), some (.inl v1), some (.inl v2), none] ([.inl w12]) h10 Q := by
            intro w12 ew12
            replace K := K w12 ew12
            refine mw_istore_n (pc' := 64) dX9_badCoastPlace_63 rfl (by decide) ?_
            show mW _ _ _ _ _ [some (.inr (some 9)), some (.inl v1), some (.inl v2), some (.inl w12)] _ _ _
            refine mw_iload_n (pc' := 65) dX9_badCoastPlace_64 rfl rfl ?_
            refine mw_if_eq (pc' := 68) (tgt := 84) dX9_badCoastPlace_65 rfl (by decide) (fun c17 => ?_) (fun c17 => ?_)
            · replace K := K.1 c17
              refine mw_iconst (pc' := 85) (v := 2) dX9_badCoastPlace_84 rfl (by decide) ?_
              refine mw_iload_n (pc' := 86) dX9_badCoastPlace_85 rfl rfl ?_
              refine mw_imul (pc' := 87) dX9_badCoastPlace_86 rfl ?_
              exact mw_iret dX9_badCoastPlace_87 rfl rfl K
            · replace K := K.2 c17
              refine mw_iload_n (pc' := 69) dX9_badCoastPlace_68 rfl rfl ?_
              refine mw_iload_n (pc' := 70) dX9_badCoastPlace_69 rfl rfl ?_
              refine mw_iconst (pc' := 71) (v := 1) dX9_badCoastPlace_70 rfl (by decide) ?_
              refine mw_isub (pc' := 72) dX9_badCoastPlace_71 rfl ?_
              refine mw_icmp_ne (pc' := 75) (tgt := 88) dX9_badCoastPlace_72 rfl (by decide) (fun c16 => ?_) (fun c16 => ?_)
              · replace K := K.1 c16
                refine mw_iinc (pc' := 91) (v := v2 + 1) dX9_badCoastPlace_88 rfl (by decide) rfl rfl ?_
                show mW _ _ _ _ _ [some (.inr (some 9)), some (.inl v1), some (.inl (v2 + 1)), some (.inl w12)] _ _ _
                refine mw_goto (tgt := 2) dX9_badCoastPlace_91 (by decide) ?_
                refine mw_weak (ls' := [some (.inr (some 9)), some (.inl v1), some (.inl (v2 + 1)), none]) ?_ ?_
                · intro i v hv; match i, hv with
                  | 0, hv => exact hv
                  | 1, hv => exact hv
                  | 2, hv => exact hv
                  | 3, hv => cases hv
                  | n + 4, hv => cases hv
                exact K
              · replace K := K.2 c16
                refine mw_aload_n (pc' := 76) dX9_badCoastPlace_75 rfl rfl ?_
                refine mw_iload_n (pc' := 77) dX9_badCoastPlace_76 rfl rfl ?_
                refine mw_iconst (pc' := 78) (v := 0) dX9_badCoastPlace_77 rfl (by decide) ?_
                refine mw_callV (pc' := 81) (b' := (0, 0)) (b1 := b) (av := [.inl v2, .inl 0]) (rest := []) dX9_badCoastPlace_78 rfl lkX9_23 rfl rfl (Nat.le_of_ble_eq_true rfl) ⟨Nat.le_of_eq (Nat.zero_add _), Nat.le_of_eq (Nat.zero_add _)⟩ (skT_9 hS) ?_
                refine mC_mono (fun r h13 hr => ?_) K
                obtain ⟨x14, rfl, hS, K⟩ := hr
                show mW _ _ _ _ _ _ [.inl x14] _ _
                refine mw_if_ne (pc' := 84) (tgt := 88) dX9_badCoastPlace_81 rfl (by decide) (fun c15 => ?_) (fun c15 => ?_)
                · replace K := K.1 c15
                  refine mw_iinc (pc' := 91) (v := v2 + 1) dX9_badCoastPlace_88 rfl (by decide) rfl rfl ?_
                  show mW _ _ _ _ _ [some (.inr (some 9)), some (.inl v1), some (.inl (v2 + 1)), some (.inl w12)] _ _ _
                  refine mw_goto (tgt := 2) dX9_badCoastPlace_91 (by decide) ?_
                  refine mw_weak (ls' := [some (.inr (some 9)), some (.inl v1), some (.inl (v2 + 1)), none]) ?_ ?_
                  · intro i v hv; match i, hv with
                    | 0, hv => exact hv
                    | 1, hv => exact hv
                    | 2, hv => exact hv
                    | 3, hv => cases hv
                    | n + 4, hv => cases hv
                  exact K
                · replace K := K.2 c15
                  refine mw_iconst (pc' := 85) (v := 2) dX9_badCoastPlace_84 rfl (by decide) ?_
                  refine mw_iload_n (pc' := 86) dX9_badCoastPlace_85 rfl rfl ?_
                  refine mw_imul (pc' := 87) dX9_badCoastPlace_86 rfl ?_
                  exact mw_iret dX9_badCoastPlace_87 rfl rfl K
          refine mw_if_eq (pc' := 58) (tgt := 62) dX9_badCoastPlace_55 rfl (by decide) (fun c19 => ?_) (fun c19 => ?_)
          · refine mw_iconst (pc' := 63) (v := 0) dX9_badCoastPlace_62 rfl (by decide) ?_
            exact J18 _ (by rw [if_pos c19])
          · refine mw_iconst (pc' := 59) (v := 1) dX9_badCoastPlace_58 rfl (by decide) ?_
            refine mw_goto (tgt := 63) dX9_badCoastPlace_59 (by decide) ?_
            exact J18 _ (by rw [if_neg c19])
      · replace K := K.2 c21
        refine mw_iconst (pc' := 38) (v := 2) dX9_badCoastPlace_37 rfl (by decide) ?_
        refine mw_iload_n (pc' := 39) dX9_badCoastPlace_38 rfl rfl ?_
        refine mw_imul (pc' := 40) dX9_badCoastPlace_39 rfl ?_
        refine mw_iconst (pc' := 41) (v := 1) dX9_badCoastPlace_40 rfl (by decide) ?_
        refine mw_iadd (pc' := 42) dX9_badCoastPlace_41 rfl ?_
        exact mw_iret dX9_badCoastPlace_42 rfl rfl K
    · replace K := K.2 c22
      refine mw_iconst (pc' := 20) (v := 2) dX9_badCoastPlace_19 rfl (by decide) ?_
      refine mw_iload_n (pc' := 21) dX9_badCoastPlace_20 rfl rfl ?_
      refine mw_imul (pc' := 22) dX9_badCoastPlace_21 rfl ?_
      exact mw_iret dX9_badCoastPlace_22 rfl rfl K

set_option maxRecDepth 100000 in
set_option maxHeartbeats 4000000 in
theorem qX9_badCoastPlace_98 {G : mG} {d : Nat} {b : Nat × Nat} {h : mH} {Q : Option mV → mH → Prop} (v1 : Int32) (v2 : Int32) (hS : mSk h)
    (K : (((3 * v1) ≤ v2 → Q (some (.inl (-1))) h) ∧ (¬ ((3 * v1) ≤ v2) → mC G kX9_at (d + 1) (0, 0) [.inr (some 9), .inl v2] h (fun r h1 => ∃ x2, r = some (.inl x2) ∧ mSk h1 ∧ ((x2 ≤ 2 → mW G kX9_badCoastPlace (d + 2) b 98 [some (.inr (some 9)), some (.inl v1), some (.inl (v2 + 1)), none] [] h1 Q) ∧ (¬ (x2 ≤ 2) → Q (some (.inl v2)) h1)))))) : mW G kX9_badCoastPlace (d + 2) b 98 [some (.inr (some 9)), some (.inl v1), some (.inl v2), none] [] h Q := by
  refine mw_iload_n (pc' := 99) dX9_badCoastPlace_98 rfl rfl ?_
  refine mw_iconst (pc' := 100) (v := 3) dX9_badCoastPlace_99 rfl (by decide) ?_
  refine mw_iload_n (pc' := 101) dX9_badCoastPlace_100 rfl rfl ?_
  refine mw_imul (pc' := 102) dX9_badCoastPlace_101 rfl ?_
  refine mw_icmp_ge (pc' := 105) (tgt := 122) dX9_badCoastPlace_102 rfl (by decide) (fun c4 => ?_) (fun c4 => ?_)
  · replace K := K.1 c4
    refine mw_iconst (pc' := 123) (v := (-1)) dX9_badCoastPlace_122 rfl (by decide) ?_
    exact mw_iret dX9_badCoastPlace_123 rfl rfl K
  · replace K := K.2 c4
    refine mw_aload_n (pc' := 106) dX9_badCoastPlace_105 rfl rfl ?_
    refine mw_iload_n (pc' := 107) dX9_badCoastPlace_106 rfl rfl ?_
    refine mw_callV (pc' := 110) (b' := (0, 0)) (b1 := b) (av := [.inl v2]) (rest := []) dX9_badCoastPlace_107 rfl lkX9_19 rfl rfl (Nat.le_of_ble_eq_true rfl) ⟨Nat.le_of_eq (Nat.zero_add _), Nat.le_of_eq (Nat.zero_add _)⟩ (skT_9 hS) ?_
    refine mC_mono (fun r h1 hr => ?_) K
    obtain ⟨x2, rfl, hS, K⟩ := hr
    show mW _ _ _ _ _ _ [.inl x2] _ _
    refine mw_iconst (pc' := 111) (v := 2) dX9_badCoastPlace_110 rfl (by decide) ?_
    refine mw_icmp_le (pc' := 114) (tgt := 116) dX9_badCoastPlace_111 rfl (by decide) (fun c3 => ?_) (fun c3 => ?_)
    · replace K := K.1 c3
      refine mw_iinc (pc' := 119) (v := v2 + 1) dX9_badCoastPlace_116 rfl (by decide) rfl rfl ?_
      show mW _ _ _ _ _ [some (.inr (some 9)), some (.inl v1), some (.inl (v2 + 1)), none] _ _ _
      refine mw_goto (tgt := 98) dX9_badCoastPlace_119 (by decide) ?_
      exact K
    · replace K := K.2 c3
      refine mw_iload_n (pc' := 115) dX9_badCoastPlace_114 rfl rfl ?_
      exact mw_iret dX9_badCoastPlace_115 rfl rfl K

set_option maxRecDepth 100000 in
set_option maxHeartbeats 4000000 in
theorem qX9_joins {G : mG} {d : Nat} {b : Nat × Nat} {h : mH} {Q : Option mV → mH → Prop} (v1 : Int32) (v2 : Int32) (hS : mSk h)
    (K : mC G kX9_at d (0, 0) [.inr (some 9), .inl (2 * v1)] h (fun r h1 => ∃ x2, r = some (.inl x2) ∧ mSk h1 ∧ mC G kX9_at d (0, 0) [.inr (some 9), .inl (2 * v2)] h1 (fun r h3 => ∃ x4, r = some (.inl x4) ∧ mSk h3 ∧ ∀ w5 : Int32, w5 = (if ¬ x2 = x4 then 0 else 1) → mC G kX9_at d (0, 0) [.inr (some 9), .inl ((2 * v1) + 1)] h3 (fun r h6 => ∃ x7, r = some (.inl x7) ∧ mSk h6 ∧ mC G kX9_at d (0, 0) [.inr (some 9), .inl ((2 * v2) + 1)] h6 (fun r h8 => ∃ x9, r = some (.inl x9) ∧ mSk h8 ∧ ∀ w10 : Int32, w10 = (if ¬ x7 = x9 then 0 else 1) → ∀ w11 : Int32, w11 = (if ¬ (v1 &&& 1) = 0 then (if w5 = 0 then 0 else (if ¬ w10 = 0 then 0 else 1)) else (if w10 = 0 then 0 else (if ¬ w5 = 0 then 0 else 1))) → Q (some (.inl w11)) h8))))) : mC G kX9_joins (d + 1) b [.inr (some 9), .inl v1, .inl v2] h Q := by
  refine mC_in rfl (Nat.le_of_ble_eq_true rfl) ?_
  show mW _ _ _ _ _ [some (.inr (some 9)), some (.inl v1), some (.inl v2), none, none] _ _ _
  refine mw_aload_n (pc' := 1) dX9_joins_0 rfl rfl ?_
  refine mw_iconst (pc' := 2) (v := 2) dX9_joins_1 rfl (by decide) ?_
  refine mw_iload_n (pc' := 3) dX9_joins_2 rfl rfl ?_
  refine mw_imul (pc' := 4) dX9_joins_3 rfl ?_
  refine mw_callV (pc' := 7) (b' := (0, 0)) (b1 := b) (av := [.inl (2 * v1)]) (rest := []) dX9_joins_4 rfl lkX9_19 rfl rfl (Nat.le_of_ble_eq_true rfl) ⟨Nat.le_of_eq (Nat.zero_add _), Nat.le_of_eq (Nat.zero_add _)⟩ (skT_9 hS) ?_
  refine mC_mono (fun r h1 hr => ?_) K
  obtain ⟨x2, rfl, hS, K⟩ := hr
  show mW _ _ _ _ _ _ [.inl x2] _ _
  refine mw_aload_n (pc' := 8) dX9_joins_7 rfl rfl ?_
  refine mw_iconst (pc' := 9) (v := 2) dX9_joins_8 rfl (by decide) ?_
  refine mw_iload_n (pc' := 10) dX9_joins_9 rfl rfl ?_
  refine mw_imul (pc' := 11) dX9_joins_10 rfl ?_
  refine mw_callV (pc' := 14) (b' := (0, 0)) (b1 := b) (av := [.inl (2 * v2)]) (rest := [.inl x2]) dX9_joins_11 rfl lkX9_19 rfl rfl (Nat.le_of_ble_eq_true rfl) ⟨Nat.le_of_eq (Nat.zero_add _), Nat.le_of_eq (Nat.zero_add _)⟩ (skT_9 hS) ?_
  refine mC_mono (fun r h3 hr => ?_) K
  obtain ⟨x4, rfl, hS, K⟩ := hr
  show mW _ _ _ _ _ _ [.inl x4, .inl x2] _ _
  have J20 : ∀ w5 : Int32, w5 = (if ¬ x2 = x4 then 0 else 1) → mW G kX9_joins (d + 1) b 22 [some (.inr (some 9)), some (.inl v1), some (.inl v2), none, none] ([.inl w5]) h3 Q := by
    intro w5 ew5
    replace K := K w5 ew5
    refine mw_istore_n (pc' := 23) dX9_joins_22 rfl (by decide) ?_
    show mW _ _ _ _ _ [some (.inr (some 9)), some (.inl v1), some (.inl v2), some (.inl w5), none] _ _ _
    refine mw_aload_n (pc' := 24) dX9_joins_23 rfl rfl ?_
    refine mw_iconst (pc' := 25) (v := 2) dX9_joins_24 rfl (by decide) ?_
    refine mw_iload_n (pc' := 26) dX9_joins_25 rfl rfl ?_
    refine mw_imul (pc' := 27) dX9_joins_26 rfl ?_
    refine mw_iconst (pc' := 28) (v := 1) dX9_joins_27 rfl (by decide) ?_
    refine mw_iadd (pc' := 29) dX9_joins_28 rfl ?_
    refine mw_callV (pc' := 32) (b' := (0, 0)) (b1 := b) (av := [.inl ((2 * v1) + 1)]) (rest := []) dX9_joins_29 rfl lkX9_19 rfl rfl (Nat.le_of_ble_eq_true rfl) ⟨Nat.le_of_eq (Nat.zero_add _), Nat.le_of_eq (Nat.zero_add _)⟩ (skT_9 hS) ?_
    refine mC_mono (fun r h6 hr => ?_) K
    obtain ⟨x7, rfl, hS, K⟩ := hr
    show mW _ _ _ _ _ _ [.inl x7] _ _
    refine mw_aload_n (pc' := 33) dX9_joins_32 rfl rfl ?_
    refine mw_iconst (pc' := 34) (v := 2) dX9_joins_33 rfl (by decide) ?_
    refine mw_iload_n (pc' := 35) dX9_joins_34 rfl rfl ?_
    refine mw_imul (pc' := 36) dX9_joins_35 rfl ?_
    refine mw_iconst (pc' := 37) (v := 1) dX9_joins_36 rfl (by decide) ?_
    refine mw_iadd (pc' := 38) dX9_joins_37 rfl ?_
    refine mw_callV (pc' := 41) (b' := (0, 0)) (b1 := b) (av := [.inl ((2 * v2) + 1)]) (rest := [.inl x7]) dX9_joins_38 rfl lkX9_19 rfl rfl (Nat.le_of_ble_eq_true rfl) ⟨Nat.le_of_eq (Nat.zero_add _), Nat.le_of_eq (Nat.zero_add _)⟩ (skT_9 hS) ?_
    refine mC_mono (fun r h8 hr => ?_) K
    obtain ⟨x9, rfl, hS, K⟩ := hr
    show mW _ _ _ _ _ _ [.inl x9, .inl x7] _ _
    have J18 : ∀ w10 : Int32, w10 = (if ¬ x7 = x9 then 0 else 1) → mW G kX9_joins (d + 1) b 49 [some (.inr (some 9)), some (.inl v1), some (.inl v2), some (.inl w5), none] ([.inl w10]) h8 Q := by
      intro w10 ew10
      replace K := K w10 ew10
      refine mw_istore (pc' := 51) dX9_joins_49 rfl (by decide) ?_
      show mW _ _ _ _ _ [some (.inr (some 9)), some (.inl v1), some (.inl v2), some (.inl w5), some (.inl w10)] _ _ _
      refine mw_iload_n (pc' := 52) dX9_joins_51 rfl rfl ?_
      refine mw_iconst (pc' := 53) (v := 1) dX9_joins_52 rfl (by decide) ?_
      refine mw_iand (pc' := 54) dX9_joins_53 rfl ?_
      have J12 : ∀ w11 : Int32, w11 = (if ¬ (v1 &&& 1) = 0 then (if w5 = 0 then 0 else (if ¬ w10 = 0 then 0 else 1)) else (if w10 = 0 then 0 else (if ¬ w5 = 0 then 0 else 1))) → mW G kX9_joins (d + 1) b 88 [some (.inr (some 9)), some (.inl v1), some (.inl v2), some (.inl w5), some (.inl w10)] ([.inl w11]) h8 Q := by
        intro w11 ew11
        replace K := K w11 ew11
        exact mw_iret dX9_joins_88 rfl (m_boolN (by rw [ew11]; exact (m_boolI (m_boolI m_bool0 (m_boolI m_bool0 m_bool1)) (m_boolI m_bool0 (m_boolI m_bool0 m_bool1))))) K
      refine mw_if_ne (pc' := 57) (tgt := 74) dX9_joins_54 rfl (by decide) (fun c13 => ?_) (fun c13 => ?_)
      · refine mw_iload_n (pc' := 75) dX9_joins_74 rfl rfl ?_
        refine mw_if_eq (pc' := 78) (tgt := 87) dX9_joins_75 rfl (by decide) (fun c14 => ?_) (fun c14 => ?_)
        · refine mw_iconst (pc' := 88) (v := 0) dX9_joins_87 rfl (by decide) ?_
          exact J12 _ (by rw [if_pos c13, if_pos c14])
        · refine mw_iload (pc' := 80) dX9_joins_78 rfl rfl ?_
          refine mw_if_ne (pc' := 83) (tgt := 87) dX9_joins_80 rfl (by decide) (fun c15 => ?_) (fun c15 => ?_)
          · refine mw_iconst (pc' := 88) (v := 0) dX9_joins_87 rfl (by decide) ?_
            exact J12 _ (by rw [if_pos c13, if_neg c14, if_pos c15])
          · refine mw_iconst (pc' := 84) (v := 1) dX9_joins_83 rfl (by decide) ?_
            refine mw_goto (tgt := 88) dX9_joins_84 (by decide) ?_
            exact J12 _ (by rw [if_pos c13, if_neg c14, if_neg (fun z => z c15)])
      · refine mw_iload (pc' := 59) dX9_joins_57 rfl rfl ?_
        refine mw_if_eq (pc' := 62) (tgt := 70) dX9_joins_59 rfl (by decide) (fun c16 => ?_) (fun c16 => ?_)
        · refine mw_iconst (pc' := 71) (v := 0) dX9_joins_70 rfl (by decide) ?_
          refine mw_goto (tgt := 88) dX9_joins_71 (by decide) ?_
          exact J12 _ (by rw [if_neg (fun z => z c13), if_pos c16])
        · refine mw_iload_n (pc' := 63) dX9_joins_62 rfl rfl ?_
          refine mw_if_ne (pc' := 66) (tgt := 70) dX9_joins_63 rfl (by decide) (fun c17 => ?_) (fun c17 => ?_)
          · refine mw_iconst (pc' := 71) (v := 0) dX9_joins_70 rfl (by decide) ?_
            refine mw_goto (tgt := 88) dX9_joins_71 (by decide) ?_
            exact J12 _ (by rw [if_neg (fun z => z c13), if_neg c16, if_pos c17])
          · refine mw_iconst (pc' := 67) (v := 1) dX9_joins_66 rfl (by decide) ?_
            refine mw_goto (tgt := 88) dX9_joins_67 (by decide) ?_
            exact J12 _ (by rw [if_neg (fun z => z c13), if_neg c16, if_neg (fun z => z c17)])
    refine mw_icmp_ne (pc' := 44) (tgt := 48) dX9_joins_41 rfl (by decide) (fun c19 => ?_) (fun c19 => ?_)
    · refine mw_iconst (pc' := 49) (v := 0) dX9_joins_48 rfl (by decide) ?_
      exact J18 _ (by rw [if_pos c19])
    · refine mw_iconst (pc' := 45) (v := 1) dX9_joins_44 rfl (by decide) ?_
      refine mw_goto (tgt := 49) dX9_joins_45 (by decide) ?_
      exact J18 _ (by rw [if_neg (fun z => z c19)])
  refine mw_icmp_ne (pc' := 17) (tgt := 21) dX9_joins_14 rfl (by decide) (fun c21 => ?_) (fun c21 => ?_)
  · refine mw_iconst (pc' := 22) (v := 0) dX9_joins_21 rfl (by decide) ?_
    exact J20 _ (by rw [if_pos c21])
  · refine mw_iconst (pc' := 18) (v := 1) dX9_joins_17 rfl (by decide) ?_
    refine mw_goto (tgt := 22) dX9_joins_18 (by decide) ?_
    exact J20 _ (by rw [if_neg (fun z => z c21)])
