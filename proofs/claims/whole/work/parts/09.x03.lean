set_option maxRecDepth 100000 in
set_option maxHeartbeats 4000000 in
theorem qX3_clear {G : mG} {d : Nat} {b : Nat × Nat} {h : mH} {Q : Option mV → mH → Prop} (a : Nat) (ta : mT h a = 4) (hS : mSk h)
    (K : ∀ h1, h1 = mSI h a 4 0 → ∀ h2, h2 = mSI h1 a 5 0 → Q none h2) : mC G kX3_clear d b [.inr (some a)] h Q := by
  refine mC_in rfl (Nat.le_of_ble_eq_true rfl) ?_
  show mW _ _ _ _ _ [some (.inr (some a))] _ _ _
  refine mw_aload_n (pc' := 1) dX3_clear_0 rfl rfl ?_
  refine mw_iconst (pc' := 2) (v := 0) dX3_clear_1 rfl (by decide) ?_
  refine mw_putIK (pc' := 5) dX3_clear_2 rfl flX3_24 rfl (Or.inl rfl) ⟨rfl, rfl⟩ (ta) hS (fun h1 eh1 hS => ?_)
  replace K := K h1 eh1
  have ta : mT h1 a = 4 := by rw [eh1]; exact ta
  refine mw_aload_n (pc' := 6) dX3_clear_5 rfl rfl ?_
  refine mw_iconst (pc' := 7) (v := 0) dX3_clear_6 rfl (by decide) ?_
  refine mw_putIK (pc' := 10) dX3_clear_7 rfl flX3_28 rfl (Or.inl rfl) ⟨rfl, rfl⟩ (ta) hS (fun h2 eh2 hS => ?_)
  replace K := K h2 eh2
  have ta : mT h2 a = 4 := by rw [eh2]; exact ta
  exact mw_ret dX3_clear_10 rfl K

set_option maxRecDepth 100000 in
set_option maxHeartbeats 4000000 in
theorem qX3_add {G : mG} {d : Nat} {b : Nat × Nat} {h : mH} {Q : Option mV → mH → Prop} (a : Nat) (v1 : Int32) (v2 : Int32) (ta : mT h a = 4) (hS : mSk h)
    (K : (((mI h a 4) < (nI 160) → vp_in (mI h a 4) 160 ∧ ∀ h2, h2 = mSI h (a + 1) (mI h a 4).toNatClampNeg ((v2 * 16) + v1) → ∀ h3, h3 = mSI h2 a 4 ((mI h2 a 4) + 1) → Q (some (.inl ((mI h3 a 4) - 1))) h3) ∧ (¬ ((mI h a 4) < (nI 160)) → Q (some (.inl (-1))) h))) : mC G kX3_add d b [.inr (some a), .inl v1, .inl v2] h Q := by
  refine mC_in rfl (Nat.le_of_ble_eq_true rfl) ?_
  show mW _ _ _ _ _ [some (.inr (some a)), some (.inl v1), some (.inl v2)] _ _ _
  refine mw_aload_n (pc' := 1) dX3_add_0 rfl rfl ?_
  refine mw_getI (pc' := 4) dX3_add_1 rfl flX3_24 rfl (ta) ?_
  refine mw_aload_n (pc' := 5) dX3_add_4 rfl rfl ?_
  refine mw_getR (pc' := 8) dX3_add_5 rfl flX3_9 rfl (ta) ?_
  rw [skBR_3_0 hS ta]
  refine mw_alen (pc' := 9) (t := 0) dX3_add_8 rfl (by decide) (skBT_3_1 hS ta) ?_
  rw [skBL_3_1 hS ta]
  refine mw_icmp_lt (pc' := 12) (tgt := 14) dX3_add_9 rfl (by decide) (fun c4 => ?_) (fun c4 => ?_)
  · replace K := K.1 c4
    refine mw_aload_n (pc' := 15) dX3_add_14 rfl rfl ?_
    refine mw_getR (pc' := 18) dX3_add_15 rfl flX3_9 rfl (ta) ?_
    rw [skBR_3_0 hS ta]
    refine mw_aload_n (pc' := 19) dX3_add_18 rfl rfl ?_
    refine mw_getI (pc' := 22) dX3_add_19 rfl flX3_24 rfl (ta) ?_
    refine mw_iload_n (pc' := 23) dX3_add_22 rfl rfl ?_
    refine mw_bipush (pc' := 25) (v := 16) dX3_add_23 rfl (by decide) ?_
    refine mw_imul (pc' := 26) dX3_add_25 rfl ?_
    refine mw_iload_n (pc' := 27) dX3_add_26 rfl rfl ?_
    refine mw_iadd (pc' := 28) dX3_add_27 rfl ?_
    obtain ⟨o1, K⟩ := K
    refine mw_iastK (pc' := 29) dX3_add_28 rfl (skBT_3_1 hS ta) (skBL_3_1 hS ta) o1 hS (fun h2 eh2 hS => ?_)
    replace K := K h2 eh2
    have ta : mT h2 a = 4 := by rw [eh2]; exact ta
    refine mw_aload_n (pc' := 30) dX3_add_29 rfl rfl ?_
    refine mw_dup (pc' := 31) dX3_add_30 rfl ?_
    refine mw_getI (pc' := 34) dX3_add_31 rfl flX3_24 rfl (ta) ?_
    refine mw_iconst (pc' := 35) (v := 1) dX3_add_34 rfl (by decide) ?_
    refine mw_iadd (pc' := 36) dX3_add_35 rfl ?_
    refine mw_putIK (pc' := 39) dX3_add_36 rfl flX3_24 rfl (Or.inl rfl) ⟨rfl, rfl⟩ (ta) hS (fun h3 eh3 hS => ?_)
    replace K := K h3 eh3
    have ta : mT h3 a = 4 := by rw [eh3]; exact ta
    refine mw_aload_n (pc' := 40) dX3_add_39 rfl rfl ?_
    refine mw_getI (pc' := 43) dX3_add_40 rfl flX3_24 rfl (ta) ?_
    refine mw_iconst (pc' := 44) (v := 1) dX3_add_43 rfl (by decide) ?_
    refine mw_isub (pc' := 45) dX3_add_44 rfl ?_
    exact mw_iret dX3_add_45 rfl rfl K
  · replace K := K.2 c4
    refine mw_iconst (pc' := 13) (v := (-1)) dX3_add_12 rfl (by decide) ?_
    exact mw_iret dX3_add_13 rfl rfl K

set_option maxRecDepth 100000 in
set_option maxHeartbeats 4000000 in
theorem qX3_aimHere {G : mG} {d : Nat} {b : Nat × Nat} {h : mH} {Q : Option mV → mH → Prop} (a : Nat) (v1 : Int32) (ta : mT h a = 4) (hS : mSk h)
    (K : ((v1 < 0 → Q none h) ∧ (¬ (v1 < 0) → (((mI h a 4) ≤ v1 → Q none h) ∧ (¬ ((mI h a 4) ≤ v1) → vp_in v1 160 ∧ vp_in v1 160 ∧ ∀ h3, h3 = mSI h (a + 1) v1.toNatClampNeg ((mI h (a + 1) v1.toNatClampNeg) + ((mI h a 4) * 16)) → Q none h3))))) : mC G kX3_aimHere d b [.inr (some a), .inl v1] h Q := by
  refine mC_in rfl (Nat.le_of_ble_eq_true rfl) ?_
  show mW _ _ _ _ _ [some (.inr (some a)), some (.inl v1)] _ _ _
  refine mw_iload_n (pc' := 1) dX3_aimHere_0 rfl rfl ?_
  refine mw_if_lt (pc' := 4) (tgt := 28) dX3_aimHere_1 rfl (by decide) (fun c5 => ?_) (fun c5 => ?_)
  · replace K := K.1 c5
    exact mw_ret dX3_aimHere_28 rfl K
  · replace K := K.2 c5
    refine mw_iload_n (pc' := 5) dX3_aimHere_4 rfl rfl ?_
    refine mw_aload_n (pc' := 6) dX3_aimHere_5 rfl rfl ?_
    refine mw_getI (pc' := 9) dX3_aimHere_6 rfl flX3_24 rfl (ta) ?_
    refine mw_icmp_ge (pc' := 12) (tgt := 28) dX3_aimHere_9 rfl (by decide) (fun c4 => ?_) (fun c4 => ?_)
    · replace K := K.1 c4
      exact mw_ret dX3_aimHere_28 rfl K
    · replace K := K.2 c4
      refine mw_aload_n (pc' := 13) dX3_aimHere_12 rfl rfl ?_
      refine mw_getR (pc' := 16) dX3_aimHere_13 rfl flX3_9 rfl (ta) ?_
      rw [skBR_3_0 hS ta]
      refine mw_iload_n (pc' := 17) dX3_aimHere_16 rfl rfl ?_
      refine mw_dup2 (pc' := 18) dX3_aimHere_17 rfl ?_
      obtain ⟨o1, K⟩ := K
      refine mw_ialdL (pc' := 19) dX3_aimHere_18 rfl (skBT_3_1 hS ta) (skBL_3_1 hS ta) o1 ?_
      refine mw_aload_n (pc' := 20) dX3_aimHere_19 rfl rfl ?_
      refine mw_getI (pc' := 23) dX3_aimHere_20 rfl flX3_24 rfl (ta) ?_
      refine mw_bipush (pc' := 25) (v := 16) dX3_aimHere_23 rfl (by decide) ?_
      refine mw_imul (pc' := 26) dX3_aimHere_25 rfl ?_
      refine mw_iadd (pc' := 27) dX3_aimHere_26 rfl ?_
      obtain ⟨o2, K⟩ := K
      refine mw_iastK (pc' := 28) dX3_aimHere_27 rfl (skBT_3_1 hS ta) (skBL_3_1 hS ta) o2 hS (fun h3 eh3 hS => ?_)
      replace K := K h3 eh3
      have ta : mT h3 a = 4 := by rw [eh3]; exact ta
      exact mw_ret dX3_aimHere_28 rfl K

set_option maxRecDepth 100000 in
set_option maxHeartbeats 4000000 in
theorem qX3_endSum {G : mG} {d : Nat} {b : Nat × Nat} {h : mH} {Q : Option mV → mH → Prop} (a : Nat) (ta : mT h a = 4) (hS : mSk h)
    (K : ((12 ≤ (mI h a 5) → Q none h) ∧ (¬ (12 ≤ (mI h a 5)) → vp_in (mI h a 5) 12 ∧ ∀ h2, h2 = mSI h (a + 3) (mI h a 5).toNatClampNeg (mI h a 4) → Q none h2))) : mC G kX3_endSum d b [.inr (some a)] h Q := by
  refine mC_in rfl (Nat.le_of_ble_eq_true rfl) ?_
  show mW _ _ _ _ _ [some (.inr (some a))] _ _ _
  refine mw_aload_n (pc' := 1) dX3_endSum_0 rfl rfl ?_
  refine mw_getI (pc' := 4) dX3_endSum_1 rfl flX3_28 rfl (ta) ?_
  refine mw_bipush (pc' := 6) (v := 12) dX3_endSum_4 rfl (by decide) ?_
  refine mw_icmp_ge (pc' := 9) (tgt := 22) dX3_endSum_6 rfl (by decide) (fun c3 => ?_) (fun c3 => ?_)
  · replace K := K.1 c3
    exact mw_ret dX3_endSum_22 rfl K
  · replace K := K.2 c3
    refine mw_aload_n (pc' := 10) dX3_endSum_9 rfl rfl ?_
    refine mw_getR (pc' := 13) dX3_endSum_10 rfl flX3_18 rfl (ta) ?_
    rw [skBR_3_2 hS ta]
    refine mw_aload_n (pc' := 14) dX3_endSum_13 rfl rfl ?_
    refine mw_getI (pc' := 17) dX3_endSum_14 rfl flX3_28 rfl (ta) ?_
    refine mw_aload_n (pc' := 18) dX3_endSum_17 rfl rfl ?_
    refine mw_getI (pc' := 21) dX3_endSum_18 rfl flX3_24 rfl (ta) ?_
    obtain ⟨o1, K⟩ := K
    refine mw_iastK (pc' := 22) dX3_endSum_21 rfl (skBT_3_3 hS ta) (skBL_3_3 hS ta) o1 hS (fun h2 eh2 hS => ?_)
    replace K := K h2 eh2
    have ta : mT h2 a = 4 := by rw [eh2]; exact ta
    exact mw_ret dX3_endSum_22 rfl K

set_option maxRecDepth 100000 in
set_option maxHeartbeats 4000000 in
theorem qX3_endClause {G : mG} {d : Nat} {b : Nat × Nat} {h : mH} {Q : Option mV → mH → Prop} (a : Nat) (ta : mT h a = 4) (hS : mSk h)
    (K : ((12 ≤ (mI h a 5) → Q none h) ∧ (¬ (12 ≤ (mI h a 5)) → ∀ h1, h1 = mSI h a 5 ((mI h a 5) + 1) → vp_in (mI h1 a 5) 13 ∧ ∀ h3, h3 = mSI h1 (a + 2) (mI h1 a 5).toNatClampNeg (mI h1 a 4) → Q none h3))) : mC G kX3_endClause d b [.inr (some a)] h Q := by
  refine mC_in rfl (Nat.le_of_ble_eq_true rfl) ?_
  show mW _ _ _ _ _ [some (.inr (some a))] _ _ _
  refine mw_aload_n (pc' := 1) dX3_endClause_0 rfl rfl ?_
  refine mw_getI (pc' := 4) dX3_endClause_1 rfl flX3_28 rfl (ta) ?_
  refine mw_bipush (pc' := 6) (v := 12) dX3_endClause_4 rfl (by decide) ?_
  refine mw_icmp_ge (pc' := 9) (tgt := 32) dX3_endClause_6 rfl (by decide) (fun c4 => ?_) (fun c4 => ?_)
  · replace K := K.1 c4
    exact mw_ret dX3_endClause_32 rfl K
  · replace K := K.2 c4
    refine mw_aload_n (pc' := 10) dX3_endClause_9 rfl rfl ?_
    refine mw_dup (pc' := 11) dX3_endClause_10 rfl ?_
    refine mw_getI (pc' := 14) dX3_endClause_11 rfl flX3_28 rfl (ta) ?_
    refine mw_iconst (pc' := 15) (v := 1) dX3_endClause_14 rfl (by decide) ?_
    refine mw_iadd (pc' := 16) dX3_endClause_15 rfl ?_
    refine mw_putIK (pc' := 19) dX3_endClause_16 rfl flX3_28 rfl (Or.inl rfl) ⟨rfl, rfl⟩ (ta) hS (fun h1 eh1 hS => ?_)
    replace K := K h1 eh1
    have ta : mT h1 a = 4 := by rw [eh1]; exact ta
    refine mw_aload_n (pc' := 20) dX3_endClause_19 rfl rfl ?_
    refine mw_getR (pc' := 23) dX3_endClause_20 rfl flX3_15 rfl (ta) ?_
    rw [skBR_3_1 hS ta]
    refine mw_aload_n (pc' := 24) dX3_endClause_23 rfl rfl ?_
    refine mw_getI (pc' := 27) dX3_endClause_24 rfl flX3_28 rfl (ta) ?_
    refine mw_aload_n (pc' := 28) dX3_endClause_27 rfl rfl ?_
    refine mw_getI (pc' := 31) dX3_endClause_28 rfl flX3_24 rfl (ta) ?_
    obtain ⟨o2, K⟩ := K
    refine mw_iastK (pc' := 32) dX3_endClause_31 rfl (skBT_3_2 hS ta) (skBL_3_2 hS ta) o2 hS (fun h3 eh3 hS => ?_)
    replace K := K h3 eh3
    have ta : mT h3 a = 4 := by rw [eh3]; exact ta
    exact mw_ret dX3_endClause_32 rfl K

set_option maxRecDepth 100000 in
set_option maxHeartbeats 4000000 in
theorem qX3_run {G : mG} {d : Nat} {b : Nat × Nat} {h : mH} {Q : Option mV → mH → Prop} (a : Nat) (v1 : Int32) (v2 : Int32) (a3 : Nat) (ta : mT h a = 4) (ta3 : mT h a3 = 100) (hS : mSk h)
    (K : ∀ h1, h1 = mSI h a 6 0 → ∀ h2, h2 = mSI h1 a 7 0 → mW G kX3_run (d + 1) b 16 [some (.inr (some a)), none, some (.inl v2), some (.inr (some a3)), some (.inl 0), some (.inl v1), none, none, none, none] [] h2 Q) : mC G kX3_run (d + 1) b [.inr (some a), .inl v1, .inl v2, .inr (some a3)] h Q := by
  refine mC_in rfl (Nat.le_of_ble_eq_true rfl) ?_
  show mW _ _ _ _ _ [some (.inr (some a)), some (.inl v1), some (.inl v2), some (.inr (some a3)), none, none, none, none, none, none] _ _ _
  refine mw_iconst (pc' := 1) (v := 0) dX3_run_0 rfl (by decide) ?_
  refine mw_istore (pc' := 3) dX3_run_1 rfl (by decide) ?_
  show mW _ _ _ _ _ [some (.inr (some a)), some (.inl v1), some (.inl v2), some (.inr (some a3)), some (.inl 0), none, none, none, none, none] _ _ _
  refine mw_aload_n (pc' := 4) dX3_run_3 rfl rfl ?_
  refine mw_iconst (pc' := 5) (v := 0) dX3_run_4 rfl (by decide) ?_
  refine mw_putIK (pc' := 8) dX3_run_5 rfl flX3_31 rfl (Or.inl rfl) (by decide) (ta) hS (fun h1 eh1 hS => ?_)
  replace K := K h1 eh1
  have ta : mT h1 a = 4 := by rw [eh1]; exact ta
  have ta3 : mT h1 a3 = 100 := by rw [eh1]; exact ta3
  refine mw_aload_n (pc' := 9) dX3_run_8 rfl rfl ?_
  refine mw_iconst (pc' := 10) (v := 0) dX3_run_9 rfl (by decide) ?_
  refine mw_putIK (pc' := 13) dX3_run_10 rfl flX3_35 rfl (Or.inl rfl) (by decide) (ta) hS (fun h2 eh2 hS => ?_)
  replace K := K h2 eh2
  have ta : mT h2 a = 4 := by rw [eh2]; exact ta
  have ta3 : mT h2 a3 = 100 := by rw [eh2]; exact ta3
  refine mw_iload_n (pc' := 14) dX3_run_13 rfl rfl ?_
  refine mw_istore (pc' := 16) dX3_run_14 rfl (by decide) ?_
  show mW _ _ _ _ _ [some (.inr (some a)), some (.inl v1), some (.inl v2), some (.inr (some a3)), some (.inl 0), some (.inl v1), none, none, none, none] _ _ _
  refine mw_weak (ls' := [some (.inr (some a)), none, some (.inl v2), some (.inr (some a3)), some (.inl 0), some (.inl v1), none, none, none, none]) ?_ ?_
  · intro i v hv; match i, hv with
    | 0, hv => exact hv
    | 1, hv => cases hv
    | 2, hv => exact hv
    | 3, hv => exact hv
    | 4, hv => exact hv
    | 5, hv => exact hv
    | 6, hv => cases hv
    | 7, hv => cases hv
    | 8, hv => cases hv
    | 9, hv => cases hv
    | n + 10, hv => cases hv
  exact K

set_option maxRecDepth 100000 in
set_option maxHeartbeats 4000000 in
theorem qX3_run_16 {G : mG} {d : Nat} {b : Nat × Nat} {h : mH} {Q : Option mV → mH → Prop} (a0 : Nat) (v2 : Int32) (a3 : Nat) (v4 : Int32) (v5 : Int32) (ta0 : mT h a0 = 4) (ta3 : mT h a3 = 100) (hS : mSk h)
    (K : ((v2 ≤ v5 → ((v4 ≤ 0 → Q (some (.inl 0)) h) ∧ (¬ (v4 ≤ 0) → vp_in (v4 - 1) 20 ∧ Q (some (.inl (mI h (a0 + 4) (v4 - 1).toNatClampNeg))) h))) ∧ (¬ (v2 ≤ v5) → vp_in v5 160 ∧ vp_in v5 160 ∧ ((1 < ((mI h (a0 + 1) v5.toNatClampNeg) &&& 15) → ((((mI h (a0 + 1) v5.toNatClampNeg) &&& 15) < 10 → ((v4 < 2 → mW G kX3_run (d + 1) b 16 [some (.inr (some a0)), none, some (.inl v2), some (.inr (some a3)), some (.inl v4), some (.inl (v5 + 1)), none, none, none, none] [] h Q) ∧ (¬ (v4 < 2) → vp_in (v4 - 1) 20 ∧ vp_in (v4 - 2) 20 ∧ ((¬ (mI h (a0 + 4) (v4 - 1).toNatClampNeg) = 0 → ((((mI h (a0 + 1) v5.toNatClampNeg) &&& 15) < 7 → vp_in (v4 - 2) 20 ∧ ∀ h8, h8 = mSI h (a0 + 4) (v4 - 2).toNatClampNeg (f_X3_reckon ((mI h (a0 + 1) v5.toNatClampNeg) &&& 15) (mI h (a0 + 4) (v4 - 2).toNatClampNeg) (mI h (a0 + 4) (v4 - 1).toNatClampNeg)) → mW G kX3_run (d + 1) b 16 [some (.inr (some a0)), none, some (.inl v2), some (.inr (some a3)), some (.inl (v4 + (-1))), some (.inl (v5 + 1)), none, none, none, none] [] h8 Q) ∧ (¬ (((mI h (a0 + 1) v5.toNatClampNeg) &&& 15) < 7) → ∀ w9 : Int32, w9 = (if ¬ ((mI h (a0 + 1) v5.toNatClampNeg) &&& 15) = 7 then (if ¬ ((mI h (a0 + 1) v5.toNatClampNeg) &&& 15) = 8 then (if ¬ (mI h (a0 + 4) (v4 - 2).toNatClampNeg) = (mI h (a0 + 4) (v4 - 1).toNatClampNeg) then 0 else 1) else (if (mI h (a0 + 4) (v4 - 2).toNatClampNeg) ≤ (mI h (a0 + 4) (v4 - 1).toNatClampNeg) then 0 else 1)) else (if (mI h (a0 + 4) (v4 - 1).toNatClampNeg) ≤ (mI h (a0 + 4) (v4 - 2).toNatClampNeg) then 0 else 1)) → ∀ h10, h10 = mSI h a0 7 w9 → mW G kX3_run (d + 1) b 16 [some (.inr (some a0)), none, some (.inl v2), some (.inr (some a3)), some (.inl (v4 + (-2))), some (.inl (v5 + 1)), none, none, none, none] [] h10 Q))) ∧ ((mI h (a0 + 4) (v4 - 1).toNatClampNeg) = 0 → ((((mI h (a0 + 1) v5.toNatClampNeg) &&& 15) = 5 → ∀ h18, h18 = mSI h a0 6 1 → Q (some (.inl 0)) h18) ∧ (¬ ((mI h (a0 + 1) v5.toNatClampNeg) &&& 15) = 5 → ((¬ ((mI h (a0 + 1) v5.toNatClampNeg) &&& 15) = 6 → ((((mI h (a0 + 1) v5.toNatClampNeg) &&& 15) < 7 → vp_in (v4 - 2) 20 ∧ ∀ h20, h20 = mSI h (a0 + 4) (v4 - 2).toNatClampNeg (f_X3_reckon ((mI h (a0 + 1) v5.toNatClampNeg) &&& 15) (mI h (a0 + 4) (v4 - 2).toNatClampNeg) (mI h (a0 + 4) (v4 - 1).toNatClampNeg)) → mW G kX3_run (d + 1) b 16 [some (.inr (some a0)), none, some (.inl v2), some (.inr (some a3)), some (.inl (v4 + (-1))), some (.inl (v5 + 1)), none, none, none, none] [] h20 Q) ∧ (¬ (((mI h (a0 + 1) v5.toNatClampNeg) &&& 15) < 7) → ∀ w21 : Int32, w21 = (if ¬ ((mI h (a0 + 1) v5.toNatClampNeg) &&& 15) = 7 then (if ¬ ((mI h (a0 + 1) v5.toNatClampNeg) &&& 15) = 8 then (if ¬ (mI h (a0 + 4) (v4 - 2).toNatClampNeg) = (mI h (a0 + 4) (v4 - 1).toNatClampNeg) then 0 else 1) else (if (mI h (a0 + 4) (v4 - 2).toNatClampNeg) ≤ (mI h (a0 + 4) (v4 - 1).toNatClampNeg) then 0 else 1)) else (if (mI h (a0 + 4) (v4 - 1).toNatClampNeg) ≤ (mI h (a0 + 4) (v4 - 2).toNatClampNeg) then 0 else 1)) → ∀ h22, h22 = mSI h a0 7 w21 → mW G kX3_run (d + 1) b 16 [some (.inr (some a0)), none, some (.inl v2), some (.inr (some a3)), some (.inl (v4 + (-2))), some (.inl (v5 + 1)), none, none, none, none] [] h22 Q))) ∧ (((mI h (a0 + 1) v5.toNatClampNeg) &&& 15) = 6 → ∀ h30, h30 = mSI h a0 6 1 → Q (some (.inl 0)) h30))))))))) ∧ (¬ (((mI h (a0 + 1) v5.toNatClampNeg) &&& 15) < 10) → ((¬ ((mI h (a0 + 1) v5.toNatClampNeg) &&& 15) = 10 → ∀ w35 : Int32, w35 = (if ¬ ((mI h (a0 + 1) v5.toNatClampNeg) &&& 15) = 11 then 0 else 1) → ((¬ (mI h a0 7) = w35 → mW G kX3_run (d + 1) b 16 [some (.inr (some a0)), none, some (.inl v2), some (.inr (some a3)), some (.inl v4), some (.inl (v5 + 1)), none, none, none, none] [] h Q) ∧ ((mI h a0 7) = w35 → mW G kX3_run (d + 1) b 16 [some (.inr (some a0)), none, some (.inl v2), some (.inr (some a3)), some (.inl v4), some (.inl ((f_max v5 ((m_shr (mI h (a0 + 1) v5.toNatClampNeg) 4) - 1)) + 1)), none, none, none, none] [] h Q))) ∧ (((mI h (a0 + 1) v5.toNatClampNeg) &&& 15) = 10 → ∀ w39 : Int32, w39 = (if ¬ (mI h a0 7) = 0 then 0 else 1) → ∀ h40, h40 = mSI h a0 7 w39 → mW G kX3_run (d + 1) b 16 [some (.inr (some a0)), none, some (.inl v2), some (.inr (some a3)), some (.inl v4), some (.inl (v5 + 1)), none, none, none, none] [] h40 Q))))) ∧ (¬ (1 < ((mI h (a0 + 1) v5.toNatClampNeg) &&& 15)) → ((20 ≤ v4 → mW G kX3_run (d + 1) b 16 [some (.inr (some a0)), none, some (.inl v2), some (.inr (some a3)), some (.inl v4), some (.inl (v5 + 1)), none, none, none, none] [] h Q) ∧ (¬ (20 ≤ v4) → ((¬ ((mI h (a0 + 1) v5.toNatClampNeg) &&& 15) = 0 → vp_in (m_shr (mI h (a0 + 1) v5.toNatClampNeg) 4) (mL h a3) ∧ vp_in v4 20 ∧ ∀ h47, h47 = mSI h (a0 + 4) v4.toNatClampNeg (mI h a3 (m_shr (mI h (a0 + 1) v5.toNatClampNeg) 4).toNatClampNeg) → mW G kX3_run (d + 1) b 16 [some (.inr (some a0)), none, some (.inl v2), some (.inr (some a3)), some (.inl (v4 + 1)), some (.inl (v5 + 1)), none, none, none, none] [] h47 Q) ∧ (((mI h (a0 + 1) v5.toNatClampNeg) &&& 15) = 0 → vp_in v4 20 ∧ ∀ h49, h49 = mSI h (a0 + 4) v4.toNatClampNeg (m_shr (mI h (a0 + 1) v5.toNatClampNeg) 4) → mW G kX3_run (d + 1) b 16 [some (.inr (some a0)), none, some (.inl v2), some (.inr (some a3)), some (.inl (v4 + 1)), some (.inl (v5 + 1)), none, none, none, none] [] h49 Q))))))))) : mW G kX3_run (d + 1) b 16 [some (.inr (some a0)), none, some (.inl v2), some (.inr (some a3)), some (.inl v4), some (.inl v5), none, none, none, none] [] h Q := by
  refine mw_iload (pc' := 18) dX3_run_16 rfl rfl ?_
  refine mw_iload_n (pc' := 19) dX3_run_18 rfl rfl ?_
  refine mw_icmp_ge (pc' := 22) (tgt := 304) dX3_run_19 rfl (by decide) (fun c53 => ?_) (fun c53 => ?_)
  · replace K := K.1 c53
    refine mw_iload (pc' := 306) dX3_run_304 rfl rfl ?_
    refine mw_if_le (pc' := 309) (tgt := 321) dX3_run_306 rfl (by decide) (fun c2 => ?_) (fun c2 => ?_)
    · replace K := K.1 c2
      refine mw_iconst (pc' := 322) (v := 0) dX3_run_321 rfl (by decide) ?_
      exact mw_iret dX3_run_322 rfl rfl K
    · replace K := K.2 c2
      refine mw_aload_n (pc' := 310) dX3_run_309 rfl rfl ?_
      refine mw_getR (pc' := 313) dX3_run_310 rfl flX3_21 rfl (ta0) ?_
      rw [skBR_3_3 hS ta0]
      refine mw_iload (pc' := 315) dX3_run_313 rfl rfl ?_
      refine mw_iconst (pc' := 316) (v := 1) dX3_run_315 rfl (by decide) ?_
      refine mw_isub (pc' := 317) dX3_run_316 rfl ?_
      obtain ⟨o1, K⟩ := K
      refine mw_ialdL (pc' := 318) dX3_run_317 rfl (skBT_3_4 hS ta0) (skBL_3_4 hS ta0) o1 ?_
      refine mw_goto (tgt := 322) dX3_run_318 (by decide) ?_
      exact mw_iret dX3_run_322 rfl rfl K
  · replace K := K.2 c53
    refine mw_aload_n (pc' := 23) dX3_run_22 rfl rfl ?_
    refine mw_getR (pc' := 26) dX3_run_23 rfl flX3_9 rfl (ta0) ?_
    rw [skBR_3_0 hS ta0]
    refine mw_iload (pc' := 28) dX3_run_26 rfl rfl ?_
    obtain ⟨o3, K⟩ := K
    refine mw_ialdL (pc' := 29) dX3_run_28 rfl (skBT_3_1 hS ta0) (skBL_3_1 hS ta0) o3 ?_
    refine mw_bipush (pc' := 31) (v := 15) dX3_run_29 rfl (by decide) ?_
    refine mw_iand (pc' := 32) dX3_run_31 rfl ?_
    refine mw_istore (pc' := 34) dX3_run_32 rfl (by decide) ?_
    show mW _ _ _ _ _ [some (.inr (some a0)), none, some (.inl v2), some (.inr (some a3)), some (.inl v4), some (.inl v5), some (.inl ((mI h (a0 + 1) v5.toNatClampNeg) &&& 15)), none, none, none] _ _ _
    refine mw_aload_n (pc' := 35) dX3_run_34 rfl rfl ?_
    refine mw_getR (pc' := 38) dX3_run_35 rfl flX3_9 rfl (ta0) ?_
    rw [skBR_3_0 hS ta0]
    refine mw_iload (pc' := 40) dX3_run_38 rfl rfl ?_
    obtain ⟨o4, K⟩ := K
    refine mw_ialdL (pc' := 41) dX3_run_40 rfl (skBT_3_1 hS ta0) (skBL_3_1 hS ta0) o4 ?_
    refine mw_iconst (pc' := 42) (v := 4) dX3_run_41 rfl (by decide) ?_
    refine mw_ishrM (pc' := 43) dX3_run_42 rfl ?_
    refine mw_istore (pc' := 45) dX3_run_43 rfl (by decide) ?_
    show mW _ _ _ _ _ [some (.inr (some a0)), none, some (.inl v2), some (.inr (some a3)), some (.inl v4), some (.inl v5), some (.inl ((mI h (a0 + 1) v5.toNatClampNeg) &&& 15)), some (.inl (m_shr (mI h (a0 + 1) v5.toNatClampNeg) 4)), none, none] _ _ _
    refine mw_iload (pc' := 47) dX3_run_45 rfl rfl ?_
    refine mw_iconst (pc' := 48) (v := 1) dX3_run_47 rfl (by decide) ?_
    refine mw_icmp_gt (pc' := 51) (tgt := 85) dX3_run_48 rfl (by decide) (fun c52 => ?_) (fun c52 => ?_)
    · replace K := K.1 c52
      refine mw_iload (pc' := 87) dX3_run_85 rfl rfl ?_
      refine mw_bipush (pc' := 89) (v := 10) dX3_run_87 rfl (by decide) ?_
      refine mw_icmp_lt (pc' := 92) (tgt := 151) dX3_run_89 rfl (by decide) (fun c44 => ?_) (fun c44 => ?_)
      · replace K := K.1 c44
        refine mw_iload (pc' := 153) dX3_run_151 rfl rfl ?_
        refine mw_iconst (pc' := 154) (v := 2) dX3_run_153 rfl (by decide) ?_
        refine mw_icmp_lt (pc' := 157) (tgt := 298) dX3_run_154 rfl (by decide) (fun c34 => ?_) (fun c34 => ?_)
        · replace K := K.1 c34
          refine mw_iinc (pc' := 301) (v := v5 + 1) dX3_run_298 rfl (by decide) rfl rfl ?_
          show mW _ _ _ _ _ [some (.inr (some a0)), none, some (.inl v2), some (.inr (some a3)), some (.inl v4), some (.inl (v5 + 1)), some (.inl ((mI h (a0 + 1) v5.toNatClampNeg) &&& 15)), some (.inl (m_shr (mI h (a0 + 1) v5.toNatClampNeg) 4)), none, none] _ _ _
          refine mw_goto (tgt := 16) dX3_run_301 (by decide) ?_
          refine mw_weak (ls' := [some (.inr (some a0)), none, some (.inl v2), some (.inr (some a3)), some (.inl v4), some (.inl (v5 + 1)), none, none, none, none]) ?_ ?_
          · intro i v hv; match i, hv with
            | 0, hv => exact hv
            | 1, hv => cases hv
            | 2, hv => exact hv
            | 3, hv => exact hv
            | 4, hv => exact hv
            | 5, hv => exact hv
            | 6, hv => cases hv
            | 7, hv => cases hv
            | 8, hv => cases hv
            | 9, hv => cases hv
            | n + 10, hv => cases hv
          exact K
        · replace K := K.2 c34
          refine mw_aload_n (pc' := 158) dX3_run_157 rfl rfl ?_
          refine mw_getR (pc' := 161) dX3_run_158 rfl flX3_21 rfl (ta0) ?_
          rw [skBR_3_3 hS ta0]
          refine mw_iload (pc' := 163) dX3_run_161 rfl rfl ?_
          refine mw_iconst (pc' := 164) (v := 1) dX3_run_163 rfl (by decide) ?_
          refine mw_isub (pc' := 165) dX3_run_164 rfl ?_
          obtain ⟨o5, K⟩ := K
          refine mw_ialdL (pc' := 166) dX3_run_165 rfl (skBT_3_4 hS ta0) (skBL_3_4 hS ta0) o5 ?_
          refine mw_istore (pc' := 168) dX3_run_166 rfl (by decide) ?_
          show mW _ _ _ _ _ [some (.inr (some a0)), none, some (.inl v2), some (.inr (some a3)), some (.inl v4), some (.inl v5), some (.inl ((mI h (a0 + 1) v5.toNatClampNeg) &&& 15)), some (.inl (m_shr (mI h (a0 + 1) v5.toNatClampNeg) 4)), some (.inl (mI h (a0 + 4) (v4 - 1).toNatClampNeg)), none] _ _ _
          refine mw_aload_n (pc' := 169) dX3_run_168 rfl rfl ?_
          refine mw_getR (pc' := 172) dX3_run_169 rfl flX3_21 rfl (ta0) ?_
          rw [skBR_3_3 hS ta0]
          refine mw_iload (pc' := 174) dX3_run_172 rfl rfl ?_
          refine mw_iconst (pc' := 175) (v := 2) dX3_run_174 rfl (by decide) ?_
          refine mw_isub (pc' := 176) dX3_run_175 rfl ?_
          obtain ⟨o6, K⟩ := K
          refine mw_ialdL (pc' := 177) dX3_run_176 rfl (skBT_3_4 hS ta0) (skBL_3_4 hS ta0) o6 ?_
          refine mw_istore (pc' := 179) dX3_run_177 rfl (by decide) ?_
          show mW _ _ _ _ _ [some (.inr (some a0)), none, some (.inl v2), some (.inr (some a3)), some (.inl v4), some (.inl v5), some (.inl ((mI h (a0 + 1) v5.toNatClampNeg) &&& 15)), some (.inl (m_shr (mI h (a0 + 1) v5.toNatClampNeg) 4)), some (.inl (mI h (a0 + 4) (v4 - 1).toNatClampNeg)), some (.inl (mI h (a0 + 4) (v4 - 2).toNatClampNeg))] _ _ _
          refine mw_iload (pc' := 181) dX3_run_179 rfl rfl ?_
          refine mw_if_ne (pc' := 184) (tgt := 204) dX3_run_181 rfl (by decide) (fun c33 => ?_) (fun c33 => ?_)
          · replace K := K.1 c33
            refine mw_iload (pc' := 206) dX3_run_204 rfl rfl ?_
            refine mw_bipush (pc' := 208) (v := 7) dX3_run_206 rfl (by decide) ?_
            refine mw_icmp_lt (pc' := 211) (tgt := 277) dX3_run_208 rfl (by decide) (fun c17 => ?_) (fun c17 => ?_)
            · replace K := K.1 c17
              refine mw_aload_n (pc' := 278) dX3_run_277 rfl rfl ?_
              refine mw_getR (pc' := 281) dX3_run_278 rfl flX3_21 rfl (ta0) ?_
              rw [skBR_3_3 hS ta0]
              refine mw_iload (pc' := 283) dX3_run_281 rfl rfl ?_
              refine mw_iconst (pc' := 284) (v := 2) dX3_run_283 rfl (by decide) ?_
              refine mw_isub (pc' := 285) dX3_run_284 rfl ?_
              refine mw_iload (pc' := 287) dX3_run_285 rfl rfl ?_
              refine mw_iload (pc' := 289) dX3_run_287 rfl rfl ?_
              refine mw_iload (pc' := 291) dX3_run_289 rfl rfl ?_
              refine mw_callS (pc' := 294) (b' := (0, 0)) (b1 := b) (av := [.inl ((mI h (a0 + 1) v5.toNatClampNeg) &&& 15), .inl (mI h (a0 + 4) (v4 - 2).toNatClampNeg), .inl (mI h (a0 + 4) (v4 - 1).toNatClampNeg)]) (rest := [.inl (v4 - 2), .inr (some (a0 + 4))]) dX3_run_291 rfl lkX3_44 rfl rfl (Nat.le_of_ble_eq_true rfl) ⟨Nat.le_of_eq (Nat.zero_add _), Nat.le_of_eq (Nat.zero_add _)⟩ ?_
              refine pX3_reckon ?_
              obtain ⟨o7, K⟩ := K
              refine mw_iastK (pc' := 295) dX3_run_294 rfl (skBT_3_4 hS ta0) (skBL_3_4 hS ta0) o7 hS (fun h8 eh8 hS => ?_)
              replace K := K h8 eh8
              have ta0 : mT h8 a0 = 4 := by rw [eh8]; exact ta0
              have ta3 : mT h8 a3 = 100 := by rw [eh8]; exact ta3
              refine mw_iinc (pc' := 298) (v := v4 + (-1)) dX3_run_295 rfl (by decide) rfl rfl ?_
              show mW _ _ _ _ _ [some (.inr (some a0)), none, some (.inl v2), some (.inr (some a3)), some (.inl (v4 + (-1))), some (.inl v5), some (.inl ((mI h (a0 + 1) v5.toNatClampNeg) &&& 15)), some (.inl (m_shr (mI h (a0 + 1) v5.toNatClampNeg) 4)), some (.inl (mI h (a0 + 4) (v4 - 1).toNatClampNeg)), some (.inl (mI h (a0 + 4) (v4 - 2).toNatClampNeg))] _ _ _
              refine mw_iinc (pc' := 301) (v := v5 + 1) dX3_run_298 rfl (by decide) rfl rfl ?_
              show mW _ _ _ _ _ [some (.inr (some a0)), none, some (.inl v2), some (.inr (some a3)), some (.inl (v4 + (-1))), some (.inl (v5 + 1)), some (.inl ((mI h (a0 + 1) v5.toNatClampNeg) &&& 15)), some (.inl (m_shr (mI h (a0 + 1) v5.toNatClampNeg) 4)), some (.inl (mI h (a0 + 4) (v4 - 1).toNatClampNeg)), some (.inl (mI h (a0 + 4) (v4 - 2).toNatClampNeg))] _ _ _
              refine mw_goto (tgt := 16) dX3_run_301 (by decide) ?_
              refine mw_weak (ls' := [some (.inr (some a0)), none, some (.inl v2), some (.inr (some a3)), some (.inl (v4 + (-1))), some (.inl (v5 + 1)), none, none, none, none]) ?_ ?_
              · intro i v hv; match i, hv with
                | 0, hv => exact hv
                | 1, hv => cases hv
                | 2, hv => exact hv
                | 3, hv => exact hv
                | 4, hv => exact hv
                | 5, hv => exact hv
                | 6, hv => cases hv
                | 7, hv => cases hv
                | 8, hv => cases hv
                | 9, hv => cases hv
                | n + 10, hv => cases hv
              exact K
            · replace K := K.2 c17
              refine mw_aload_n (pc' := 212) dX3_run_211 rfl rfl ?_
              refine mw_iload (pc' := 214) dX3_run_212 rfl rfl ?_
              refine mw_bipush (pc' := 216) (v := 7) dX3_run_214 rfl (by decide) ?_
              have J11 : ∀ w9 : Int32, w9 = (if ¬ ((mI h (a0 + 1) v5.toNatClampNeg) &&& 15) = 7 then (if ¬ ((mI h (a0 + 1) v5.toNatClampNeg) &&& 15) = 8 then (if ¬ (mI h (a0 + 4) (v4 - 2).toNatClampNeg) = (mI h (a0 + 4) (v4 - 1).toNatClampNeg) then 0 else 1) else (if (mI h (a0 + 4) (v4 - 2).toNatClampNeg) ≤ (mI h (a0 + 4) (v4 - 1).toNatClampNeg) then 0 else 1)) else (if (mI h (a0 + 4) (v4 - 1).toNatClampNeg) ≤ (mI h (a0 + 4) (v4 - 2).toNatClampNeg) then 0 else 1)) → mW G kX3_run (d + 1) b 268 [some (.inr (some a0)), none, some (.inl v2), some (.inr (some a3)), some (.inl v4), some (.inl v5), some (.inl ((mI h (a0 + 1) v5.toNatClampNeg) &&& 15)), some (.inl (m_shr (mI h (a0 + 1) v5.toNatClampNeg) 4)), some (.inl (mI h (a0 + 4) (v4 - 1).toNatClampNeg)), some (.inl (mI h (a0 + 4) (v4 - 2).toNatClampNeg))] ([.inl w9, .inr (some a0)]) h Q := by
                intro w9 ew9
                replace K := K w9 ew9
                refine mw_putIK (pc' := 271) dX3_run_268 rfl flX3_35 rfl (Or.inl rfl) (m_boolP (by rw [ew9]; exact (m_boolI (m_boolI (m_boolI m_bool0 m_bool1) (m_boolI m_bool0 m_bool1)) (m_boolI m_bool0 m_bool1)))) (ta0) hS (fun h10 eh10 hS => ?_)
                replace K := K h10 eh10
                have ta0 : mT h10 a0 = 4 := by rw [eh10]; exact ta0
                have ta3 : mT h10 a3 = 100 := by rw [eh10]; exact ta3
                refine mw_iinc (pc' := 274) (v := v4 + (-2)) dX3_run_271 rfl (by decide) rfl rfl ?_
                show mW _ _ _ _ _ [some (.inr (some a0)), none, some (.inl v2), some (.inr (some a3)), some (.inl (v4 + (-2))), some (.inl v5), some (.inl ((mI h (a0 + 1) v5.toNatClampNeg) &&& 15)), some (.inl (m_shr (mI h (a0 + 1) v5.toNatClampNeg) 4)), some (.inl (mI h (a0 + 4) (v4 - 1).toNatClampNeg)), some (.inl (mI h (a0 + 4) (v4 - 2).toNatClampNeg))] _ _ _
                refine mw_goto (tgt := 298) dX3_run_274 (by decide) ?_
                refine mw_iinc (pc' := 301) (v := v5 + 1) dX3_run_298 rfl (by decide) rfl rfl ?_
                show mW _ _ _ _ _ [some (.inr (some a0)), none, some (.inl v2), some (.inr (some a3)), some (.inl (v4 + (-2))), some (.inl (v5 + 1)), some (.inl ((mI h (a0 + 1) v5.toNatClampNeg) &&& 15)), some (.inl (m_shr (mI h (a0 + 1) v5.toNatClampNeg) 4)), some (.inl (mI h (a0 + 4) (v4 - 1).toNatClampNeg)), some (.inl (mI h (a0 + 4) (v4 - 2).toNatClampNeg))] _ _ _
                refine mw_goto (tgt := 16) dX3_run_301 (by decide) ?_
                refine mw_weak (ls' := [some (.inr (some a0)), none, some (.inl v2), some (.inr (some a3)), some (.inl (v4 + (-2))), some (.inl (v5 + 1)), none, none, none, none]) ?_ ?_
                · intro i v hv; match i, hv with
                  | 0, hv => exact hv
                  | 1, hv => cases hv
                  | 2, hv => exact hv
                  | 3, hv => exact hv
                  | 4, hv => exact hv
                  | 5, hv => exact hv
                  | 6, hv => cases hv
                  | 7, hv => cases hv
                  | 8, hv => cases hv
                  | 9, hv => cases hv
                  | n + 10, hv => cases hv
                exact K
              refine mw_icmp_ne (pc' := 219) (tgt := 234) dX3_run_216 rfl (by decide) (fun c12 => ?_) (fun c12 => ?_)
              · refine mw_iload (pc' := 236) dX3_run_234 rfl rfl ?_
                refine mw_bipush (pc' := 238) (v := 8) dX3_run_236 rfl (by decide) ?_
                refine mw_icmp_ne (pc' := 241) (tgt := 256) dX3_run_238 rfl (by decide) (fun c13 => ?_) (fun c13 => ?_)
                · refine mw_iload (pc' := 258) dX3_run_256 rfl rfl ?_
                  refine mw_iload (pc' := 260) dX3_run_258 rfl rfl ?_
                  refine mw_icmp_ne (pc' := 263) (tgt := 267) dX3_run_260 rfl (by decide) (fun c14 => ?_) (fun c14 => ?_)
                  · refine mw_iconst (pc' := 268) (v := 0) dX3_run_267 rfl (by decide) ?_
                    exact J11 _ (by rw [if_pos c12, if_pos c13, if_pos c14])
                  · refine mw_iconst (pc' := 264) (v := 1) dX3_run_263 rfl (by decide) ?_
                    refine mw_goto (tgt := 268) dX3_run_264 (by decide) ?_
                    exact J11 _ (by rw [if_pos c12, if_pos c13, if_neg (fun z => z c14)])
                · refine mw_iload (pc' := 243) dX3_run_241 rfl rfl ?_
                  refine mw_iload (pc' := 245) dX3_run_243 rfl rfl ?_
                  refine mw_icmp_le (pc' := 248) (tgt := 252) dX3_run_245 rfl (by decide) (fun c15 => ?_) (fun c15 => ?_)
                  · refine mw_iconst (pc' := 253) (v := 0) dX3_run_252 rfl (by decide) ?_
                    refine mw_goto (tgt := 268) dX3_run_253 (by decide) ?_
                    exact J11 _ (by rw [if_pos c12, if_neg (fun z => z c13), if_pos c15])
                  · refine mw_iconst (pc' := 249) (v := 1) dX3_run_248 rfl (by decide) ?_
                    refine mw_goto (tgt := 268) dX3_run_249 (by decide) ?_
                    exact J11 _ (by rw [if_pos c12, if_neg (fun z => z c13), if_neg c15])
              · refine mw_iload (pc' := 221) dX3_run_219 rfl rfl ?_
                refine mw_iload (pc' := 223) dX3_run_221 rfl rfl ?_
                refine mw_icmp_ge (pc' := 226) (tgt := 230) dX3_run_223 rfl (by decide) (fun c16 => ?_) (fun c16 => ?_)
                · refine mw_iconst (pc' := 231) (v := 0) dX3_run_230 rfl (by decide) ?_
                  refine mw_goto (tgt := 268) dX3_run_231 (by decide) ?_
                  exact J11 _ (by rw [if_neg (fun z => z c12), if_pos c16])
                · refine mw_iconst (pc' := 227) (v := 1) dX3_run_226 rfl (by decide) ?_
                  refine mw_goto (tgt := 268) dX3_run_227 (by decide) ?_
                  exact J11 _ (by rw [if_neg (fun z => z c12), if_neg c16])
          · replace K := K.2 c33
            refine mw_iload (pc' := 186) dX3_run_184 rfl rfl ?_
            refine mw_iconst (pc' := 187) (v := 5) dX3_run_186 rfl (by decide) ?_
            refine mw_icmp_eq (pc' := 190) (tgt := 197) dX3_run_187 rfl (by decide) (fun c32 => ?_) (fun c32 => ?_)
            · replace K := K.1 c32
              refine mw_aload_n (pc' := 198) dX3_run_197 rfl rfl ?_
              refine mw_iconst (pc' := 199) (v := 1) dX3_run_198 rfl (by decide) ?_
              refine mw_putIK (pc' := 202) dX3_run_199 rfl flX3_31 rfl (Or.inl rfl) (by decide) (ta0) hS (fun h18 eh18 hS => ?_)
              replace K := K h18 eh18
              have ta0 : mT h18 a0 = 4 := by rw [eh18]; exact ta0
              have ta3 : mT h18 a3 = 100 := by rw [eh18]; exact ta3
              refine mw_iconst (pc' := 203) (v := 0) dX3_run_202 rfl (by decide) ?_
              exact mw_iret dX3_run_203 rfl rfl K
            · replace K := K.2 c32
              refine mw_iload (pc' := 192) dX3_run_190 rfl rfl ?_
              refine mw_bipush (pc' := 194) (v := 6) dX3_run_192 rfl (by decide) ?_
              refine mw_icmp_ne (pc' := 197) (tgt := 204) dX3_run_194 rfl (by decide) (fun c31 => ?_) (fun c31 => ?_)
              · replace K := K.1 c31
                refine mw_iload (pc' := 206) dX3_run_204 rfl rfl ?_
                refine mw_bipush (pc' := 208) (v := 7) dX3_run_206 rfl (by decide) ?_
                refine mw_icmp_lt (pc' := 211) (tgt := 277) dX3_run_208 rfl (by decide) (fun c29 => ?_) (fun c29 => ?_)
                · replace K := K.1 c29
                  refine mw_aload_n (pc' := 278) dX3_run_277 rfl rfl ?_
                  refine mw_getR (pc' := 281) dX3_run_278 rfl flX3_21 rfl (ta0) ?_
                  rw [skBR_3_3 hS ta0]
                  refine mw_iload (pc' := 283) dX3_run_281 rfl rfl ?_
                  refine mw_iconst (pc' := 284) (v := 2) dX3_run_283 rfl (by decide) ?_
                  refine mw_isub (pc' := 285) dX3_run_284 rfl ?_
                  refine mw_iload (pc' := 287) dX3_run_285 rfl rfl ?_
                  refine mw_iload (pc' := 289) dX3_run_287 rfl rfl ?_
                  refine mw_iload (pc' := 291) dX3_run_289 rfl rfl ?_
                  refine mw_callS (pc' := 294) (b' := (0, 0)) (b1 := b) (av := [.inl ((mI h (a0 + 1) v5.toNatClampNeg) &&& 15), .inl (mI h (a0 + 4) (v4 - 2).toNatClampNeg), .inl (mI h (a0 + 4) (v4 - 1).toNatClampNeg)]) (rest := [.inl (v4 - 2), .inr (some (a0 + 4))]) dX3_run_291 rfl lkX3_44 rfl rfl (Nat.le_of_ble_eq_true rfl) ⟨Nat.le_of_eq (Nat.zero_add _), Nat.le_of_eq (Nat.zero_add _)⟩ ?_
                  refine pX3_reckon ?_
                  obtain ⟨o19, K⟩ := K
                  refine mw_iastK (pc' := 295) dX3_run_294 rfl (skBT_3_4 hS ta0) (skBL_3_4 hS ta0) o19 hS (fun h20 eh20 hS => ?_)
                  replace K := K h20 eh20
                  have ta0 : mT h20 a0 = 4 := by rw [eh20]; exact ta0
                  have ta3 : mT h20 a3 = 100 := by rw [eh20]; exact ta3
                  refine mw_iinc (pc' := 298) (v := v4 + (-1)) dX3_run_295 rfl (by decide) rfl rfl ?_
                  show mW _ _ _ _ _ [some (.inr (some a0)), none, some (.inl v2), some (.inr (some a3)), some (.inl (v4 + (-1))), some (.inl v5), some (.inl ((mI h (a0 + 1) v5.toNatClampNeg) &&& 15)), some (.inl (m_shr (mI h (a0 + 1) v5.toNatClampNeg) 4)), some (.inl (mI h (a0 + 4) (v4 - 1).toNatClampNeg)), some (.inl (mI h (a0 + 4) (v4 - 2).toNatClampNeg))] _ _ _
                  refine mw_iinc (pc' := 301) (v := v5 + 1) dX3_run_298 rfl (by decide) rfl rfl ?_
                  show mW _ _ _ _ _ [some (.inr (some a0)), none, some (.inl v2), some (.inr (some a3)), some (.inl (v4 + (-1))), some (.inl (v5 + 1)), some (.inl ((mI h (a0 + 1) v5.toNatClampNeg) &&& 15)), some (.inl (m_shr (mI h (a0 + 1) v5.toNatClampNeg) 4)), some (.inl (mI h (a0 + 4) (v4 - 1).toNatClampNeg)), some (.inl (mI h (a0 + 4) (v4 - 2).toNatClampNeg))] _ _ _
                  refine mw_goto (tgt := 16) dX3_run_301 (by decide) ?_
                  refine mw_weak (ls' := [some (.inr (some a0)), none, some (.inl v2), some (.inr (some a3)), some (.inl (v4 + (-1))), some (.inl (v5 + 1)), none, none, none, none]) ?_ ?_
                  · intro i v hv; match i, hv with
                    | 0, hv => exact hv
                    | 1, hv => cases hv
                    | 2, hv => exact hv
                    | 3, hv => exact hv
                    | 4, hv => exact hv
                    | 5, hv => exact hv
                    | 6, hv => cases hv
                    | 7, hv => cases hv
                    | 8, hv => cases hv
                    | 9, hv => cases hv
                    | n + 10, hv => cases hv
                  exact K
                · replace K := K.2 c29
                  refine mw_aload_n (pc' := 212) dX3_run_211 rfl rfl ?_
                  refine mw_iload (pc' := 214) dX3_run_212 rfl rfl ?_
                  refine mw_bipush (pc' := 216) (v := 7) dX3_run_214 rfl (by decide) ?_
                  have J23 : ∀ w21 : Int32, w21 = (if ¬ ((mI h (a0 + 1) v5.toNatClampNeg) &&& 15) = 7 then (if ¬ ((mI h (a0 + 1) v5.toNatClampNeg) &&& 15) = 8 then (if ¬ (mI h (a0 + 4) (v4 - 2).toNatClampNeg) = (mI h (a0 + 4) (v4 - 1).toNatClampNeg) then 0 else 1) else (if (mI h (a0 + 4) (v4 - 2).toNatClampNeg) ≤ (mI h (a0 + 4) (v4 - 1).toNatClampNeg) then 0 else 1)) else (if (mI h (a0 + 4) (v4 - 1).toNatClampNeg) ≤ (mI h (a0 + 4) (v4 - 2).toNatClampNeg) then 0 else 1)) → mW G kX3_run (d + 1) b 268 [some (.inr (some a0)), none, some (.inl v2), some (.inr (some a3)), some (.inl v4), some (.inl v5), some (.inl ((mI h (a0 + 1) v5.toNatClampNeg) &&& 15)), some (.inl (m_shr (mI h (a0 + 1) v5.toNatClampNeg) 4)), some (.inl (mI h (a0 + 4) (v4 - 1).toNatClampNeg)), some (.inl (mI h (a0 + 4) (v4 - 2).toNatClampNeg))] ([.inl w21, .inr (some a0)]) h Q := by
                    intro w21 ew21
                    replace K := K w21 ew21
                    refine mw_putIK (pc' := 271) dX3_run_268 rfl flX3_35 rfl (Or.inl rfl) (m_boolP (by rw [ew21]; exact (m_boolI (m_boolI (m_boolI m_bool0 m_bool1) (m_boolI m_bool0 m_bool1)) (m_boolI m_bool0 m_bool1)))) (ta0) hS (fun h22 eh22 hS => ?_)
                    replace K := K h22 eh22
                    have ta0 : mT h22 a0 = 4 := by rw [eh22]; exact ta0
                    have ta3 : mT h22 a3 = 100 := by rw [eh22]; exact ta3
                    refine mw_iinc (pc' := 274) (v := v4 + (-2)) dX3_run_271 rfl (by decide) rfl rfl ?_
                    show mW _ _ _ _ _ [some (.inr (some a0)), none, some (.inl v2), some (.inr (some a3)), some (.inl (v4 + (-2))), some (.inl v5), some (.inl ((mI h (a0 + 1) v5.toNatClampNeg) &&& 15)), some (.inl (m_shr (mI h (a0 + 1) v5.toNatClampNeg) 4)), some (.inl (mI h (a0 + 4) (v4 - 1).toNatClampNeg)), some (.inl (mI h (a0 + 4) (v4 - 2).toNatClampNeg))] _ _ _
                    refine mw_goto (tgt := 298) dX3_run_274 (by decide) ?_
                    refine mw_iinc (pc' := 301) (v := v5 + 1) dX3_run_298 rfl (by decide) rfl rfl ?_
                    show mW _ _ _ _ _ [some (.inr (some a0)), none, some (.inl v2), some (.inr (some a3)), some (.inl (v4 + (-2))), some (.inl (v5 + 1)), some (.inl ((mI h (a0 + 1) v5.toNatClampNeg) &&& 15)), some (.inl (m_shr (mI h (a0 + 1) v5.toNatClampNeg) 4)), some (.inl (mI h (a0 + 4) (v4 - 1).toNatClampNeg)), some (.inl (mI h (a0 + 4) (v4 - 2).toNatClampNeg))] _ _ _
                    refine mw_goto (tgt := 16) dX3_run_301 (by decide) ?_
                    refine mw_weak (ls' := [some (.inr (some a0)), none, some (.inl v2), some (.inr (some a3)), some (.inl (v4 + (-2))), some (.inl (v5 + 1)), none, none, none, none]) ?_ ?_
                    · intro i v hv; match i, hv with
                      | 0, hv => exact hv
                      | 1, hv => cases hv
                      | 2, hv => exact hv
                      | 3, hv => exact hv
                      | 4, hv => exact hv
                      | 5, hv => exact hv
                      | 6, hv => cases hv
                      | 7, hv => cases hv
                      | 8, hv => cases hv
                      | 9, hv => cases hv
                      | n + 10, hv => cases hv
                    exact K
                  refine mw_icmp_ne (pc' := 219) (tgt := 234) dX3_run_216 rfl (by decide) (fun c24 => ?_) (fun c24 => ?_)
                  · refine mw_iload (pc' := 236) dX3_run_234 rfl rfl ?_
                    refine mw_bipush (pc' := 238) (v := 8) dX3_run_236 rfl (by decide) ?_
                    refine mw_icmp_ne (pc' := 241) (tgt := 256) dX3_run_238 rfl (by decide) (fun c25 => ?_) (fun c25 => ?_)
                    · refine mw_iload (pc' := 258) dX3_run_256 rfl rfl ?_
                      refine mw_iload (pc' := 260) dX3_run_258 rfl rfl ?_
                      refine mw_icmp_ne (pc' := 263) (tgt := 267) dX3_run_260 rfl (by decide) (fun c26 => ?_) (fun c26 => ?_)
                      · refine mw_iconst (pc' := 268) (v := 0) dX3_run_267 rfl (by decide) ?_
                        exact J23 _ (by rw [if_pos c24, if_pos c25, if_pos c26])
                      · refine mw_iconst (pc' := 264) (v := 1) dX3_run_263 rfl (by decide) ?_
                        refine mw_goto (tgt := 268) dX3_run_264 (by decide) ?_
                        exact J23 _ (by rw [if_pos c24, if_pos c25, if_neg (fun z => z c26)])
                    · refine mw_iload (pc' := 243) dX3_run_241 rfl rfl ?_
                      refine mw_iload (pc' := 245) dX3_run_243 rfl rfl ?_
                      refine mw_icmp_le (pc' := 248) (tgt := 252) dX3_run_245 rfl (by decide) (fun c27 => ?_) (fun c27 => ?_)
                      · refine mw_iconst (pc' := 253) (v := 0) dX3_run_252 rfl (by decide) ?_
                        refine mw_goto (tgt := 268) dX3_run_253 (by decide) ?_
                        exact J23 _ (by rw [if_pos c24, if_neg (fun z => z c25), if_pos c27])
                      · refine mw_iconst (pc' := 249) (v := 1) dX3_run_248 rfl (by decide) ?_
                        refine mw_goto (tgt := 268) dX3_run_249 (by decide) ?_
                        exact J23 _ (by rw [if_pos c24, if_neg (fun z => z c25), if_neg c27])
                  · refine mw_iload (pc' := 221) dX3_run_219 rfl rfl ?_
                    refine mw_iload (pc' := 223) dX3_run_221 rfl rfl ?_
                    refine mw_icmp_ge (pc' := 226) (tgt := 230) dX3_run_223 rfl (by decide) (fun c28 => ?_) (fun c28 => ?_)
                    · refine mw_iconst (pc' := 231) (v := 0) dX3_run_230 rfl (by decide) ?_
                      refine mw_goto (tgt := 268) dX3_run_231 (by decide) ?_
                      exact J23 _ (by rw [if_neg (fun z => z c24), if_pos c28])
                    · refine mw_iconst (pc' := 227) (v := 1) dX3_run_226 rfl (by decide) ?_
                      refine mw_goto (tgt := 268) dX3_run_227 (by decide) ?_
                      exact J23 _ (by rw [if_neg (fun z => z c24), if_neg c28])
              · replace K := K.2 c31
                refine mw_aload_n (pc' := 198) dX3_run_197 rfl rfl ?_
                refine mw_iconst (pc' := 199) (v := 1) dX3_run_198 rfl (by decide) ?_
                refine mw_putIK (pc' := 202) dX3_run_199 rfl flX3_31 rfl (Or.inl rfl) (by decide) (ta0) hS (fun h30 eh30 hS => ?_)
                replace K := K h30 eh30
                have ta0 : mT h30 a0 = 4 := by rw [eh30]; exact ta0
                have ta3 : mT h30 a3 = 100 := by rw [eh30]; exact ta3
                refine mw_iconst (pc' := 203) (v := 0) dX3_run_202 rfl (by decide) ?_
                exact mw_iret dX3_run_203 rfl rfl K
      · replace K := K.2 c44
        refine mw_iload (pc' := 94) dX3_run_92 rfl rfl ?_
        refine mw_bipush (pc' := 96) (v := 10) dX3_run_94 rfl (by decide) ?_
        refine mw_icmp_ne (pc' := 99) (tgt := 118) dX3_run_96 rfl (by decide) (fun c43 => ?_) (fun c43 => ?_)
        · replace K := K.1 c43
          refine mw_aload_n (pc' := 119) dX3_run_118 rfl rfl ?_
          refine mw_getI (pc' := 122) dX3_run_119 rfl flX3_35 rfl (ta0) ?_
          refine mw_iload (pc' := 124) dX3_run_122 rfl rfl ?_
          refine mw_bipush (pc' := 126) (v := 11) dX3_run_124 rfl (by decide) ?_
          have J37 : ∀ w35 : Int32, w35 = (if ¬ ((mI h (a0 + 1) v5.toNatClampNeg) &&& 15) = 11 then 0 else 1) → mW G kX3_run (d + 1) b 134 [some (.inr (some a0)), none, some (.inl v2), some (.inr (some a3)), some (.inl v4), some (.inl v5), some (.inl ((mI h (a0 + 1) v5.toNatClampNeg) &&& 15)), some (.inl (m_shr (mI h (a0 + 1) v5.toNatClampNeg) 4)), none, none] ([.inl w35, .inl (mI h a0 7)]) h Q := by
            intro w35 ew35
            replace K := K w35 ew35
            refine mw_icmp_ne (pc' := 137) (tgt := 298) dX3_run_134 rfl (by decide) (fun c36 => ?_) (fun c36 => ?_)
            · replace K := K.1 c36
              refine mw_iinc (pc' := 301) (v := v5 + 1) dX3_run_298 rfl (by decide) rfl rfl ?_
              show mW _ _ _ _ _ [some (.inr (some a0)), none, some (.inl v2), some (.inr (some a3)), some (.inl v4), some (.inl (v5 + 1)), some (.inl ((mI h (a0 + 1) v5.toNatClampNeg) &&& 15)), some (.inl (m_shr (mI h (a0 + 1) v5.toNatClampNeg) 4)), none, none] _ _ _
              refine mw_goto (tgt := 16) dX3_run_301 (by decide) ?_
              refine mw_weak (ls' := [some (.inr (some a0)), none, some (.inl v2), some (.inr (some a3)), some (.inl v4), some (.inl (v5 + 1)), none, none, none, none]) ?_ ?_
              · intro i v hv; match i, hv with
                | 0, hv => exact hv
                | 1, hv => cases hv
                | 2, hv => exact hv
                | 3, hv => exact hv
                | 4, hv => exact hv
                | 5, hv => exact hv
                | 6, hv => cases hv
                | 7, hv => cases hv
                | 8, hv => cases hv
                | 9, hv => cases hv
                | n + 10, hv => cases hv
              exact K
            · replace K := K.2 c36
              refine mw_iload (pc' := 139) dX3_run_137 rfl rfl ?_
              refine mw_iload (pc' := 141) dX3_run_139 rfl rfl ?_
              refine mw_iconst (pc' := 142) (v := 1) dX3_run_141 rfl (by decide) ?_
              refine mw_isub (pc' := 143) dX3_run_142 rfl ?_
              refine mw_mmax (pc' := 146) dX3_run_143 rfl lkX3_38 (Nat.le_of_ble_eq_true rfl) ?_
              refine mw_istore (pc' := 148) dX3_run_146 rfl (by decide) ?_
              show mW _ _ _ _ _ [some (.inr (some a0)), none, some (.inl v2), some (.inr (some a3)), some (.inl v4), some (.inl (f_max v5 ((m_shr (mI h (a0 + 1) v5.toNatClampNeg) 4) - 1))), some (.inl ((mI h (a0 + 1) v5.toNatClampNeg) &&& 15)), some (.inl (m_shr (mI h (a0 + 1) v5.toNatClampNeg) 4)), none, none] _ _ _
              refine mw_goto (tgt := 298) dX3_run_148 (by decide) ?_
              refine mw_iinc (pc' := 301) (v := (f_max v5 ((m_shr (mI h (a0 + 1) v5.toNatClampNeg) 4) - 1)) + 1) dX3_run_298 rfl (by decide) rfl rfl ?_
              show mW _ _ _ _ _ [some (.inr (some a0)), none, some (.inl v2), some (.inr (some a3)), some (.inl v4), some (.inl ((f_max v5 ((m_shr (mI h (a0 + 1) v5.toNatClampNeg) 4) - 1)) + 1)), some (.inl ((mI h (a0 + 1) v5.toNatClampNeg) &&& 15)), some (.inl (m_shr (mI h (a0 + 1) v5.toNatClampNeg) 4)), none, none] _ _ _
              refine mw_goto (tgt := 16) dX3_run_301 (by decide) ?_
              refine mw_weak (ls' := [some (.inr (some a0)), none, some (.inl v2), some (.inr (some a3)), some (.inl v4), some (.inl ((f_max v5 ((m_shr (mI h (a0 + 1) v5.toNatClampNeg) 4) - 1)) + 1)), none, none, none, none]) ?_ ?_
              · intro i v hv; match i, hv with
                | 0, hv => exact hv
                | 1, hv => cases hv
                | 2, hv => exact hv
                | 3, hv => exact hv
                | 4, hv => exact hv
                | 5, hv => exact hv
                | 6, hv => cases hv
                | 7, hv => cases hv
                | 8, hv => cases hv
                | 9, hv => cases hv
                | n + 10, hv => cases hv
              exact K
          refine mw_icmp_ne (pc' := 129) (tgt := 133) dX3_run_126 rfl (by decide) (fun c38 => ?_) (fun c38 => ?_)
          · refine mw_iconst (pc' := 134) (v := 0) dX3_run_133 rfl (by decide) ?_
            exact J37 _ (by rw [if_pos c38])
          · refine mw_iconst (pc' := 130) (v := 1) dX3_run_129 rfl (by decide) ?_
            refine mw_goto (tgt := 134) dX3_run_130 (by decide) ?_
            exact J37 _ (by rw [if_neg (fun z => z c38)])
        · replace K := K.2 c43
          refine mw_aload_n (pc' := 100) dX3_run_99 rfl rfl ?_
          refine mw_aload_n (pc' := 101) dX3_run_100 rfl rfl ?_
          refine mw_getI (pc' := 104) dX3_run_101 rfl flX3_35 rfl (ta0) ?_
          have J41 : ∀ w39 : Int32, w39 = (if ¬ (mI h a0 7) = 0 then 0 else 1) → mW G kX3_run (d + 1) b 112 [some (.inr (some a0)), none, some (.inl v2), some (.inr (some a3)), some (.inl v4), some (.inl v5), some (.inl ((mI h (a0 + 1) v5.toNatClampNeg) &&& 15)), some (.inl (m_shr (mI h (a0 + 1) v5.toNatClampNeg) 4)), none, none] ([.inl w39, .inr (some a0)]) h Q := by
            intro w39 ew39
            replace K := K w39 ew39
            refine mw_putIK (pc' := 115) dX3_run_112 rfl flX3_35 rfl (Or.inl rfl) (m_boolP (by rw [ew39]; exact (m_boolI m_bool0 m_bool1))) (ta0) hS (fun h40 eh40 hS => ?_)
            replace K := K h40 eh40
            have ta0 : mT h40 a0 = 4 := by rw [eh40]; exact ta0
            have ta3 : mT h40 a3 = 100 := by rw [eh40]; exact ta3
            refine mw_goto (tgt := 298) dX3_run_115 (by decide) ?_
            refine mw_iinc (pc' := 301) (v := v5 + 1) dX3_run_298 rfl (by decide) rfl rfl ?_
            show mW _ _ _ _ _ [some (.inr (some a0)), none, some (.inl v2), some (.inr (some a3)), some (.inl v4), some (.inl (v5 + 1)), some (.inl ((mI h (a0 + 1) v5.toNatClampNeg) &&& 15)), some (.inl (m_shr (mI h (a0 + 1) v5.toNatClampNeg) 4)), none, none] _ _ _
            refine mw_goto (tgt := 16) dX3_run_301 (by decide) ?_
            refine mw_weak (ls' := [some (.inr (some a0)), none, some (.inl v2), some (.inr (some a3)), some (.inl v4), some (.inl (v5 + 1)), none, none, none, none]) ?_ ?_
            · intro i v hv; match i, hv with
              | 0, hv => exact hv
              | 1, hv => cases hv
              | 2, hv => exact hv
              | 3, hv => exact hv
              | 4, hv => exact hv
              | 5, hv => exact hv
              | 6, hv => cases hv
              | 7, hv => cases hv
              | 8, hv => cases hv
              | 9, hv => cases hv
              | n + 10, hv => cases hv
            exact K
          refine mw_if_ne (pc' := 107) (tgt := 111) dX3_run_104 rfl (by decide) (fun c42 => ?_) (fun c42 => ?_)
          · refine mw_iconst (pc' := 112) (v := 0) dX3_run_111 rfl (by decide) ?_
            exact J41 _ (by rw [if_pos c42])
          · refine mw_iconst (pc' := 108) (v := 1) dX3_run_107 rfl (by decide) ?_
            refine mw_goto (tgt := 112) dX3_run_108 (by decide) ?_
            exact J41 _ (by rw [if_neg (fun z => z c42)])
    · replace K := K.2 c52
      refine mw_iload (pc' := 53) dX3_run_51 rfl rfl ?_
      refine mw_bipush (pc' := 55) (v := 20) dX3_run_53 rfl (by decide) ?_
      refine mw_icmp_ge (pc' := 58) (tgt := 298) dX3_run_55 rfl (by decide) (fun c51 => ?_) (fun c51 => ?_)
      · replace K := K.1 c51
        refine mw_iinc (pc' := 301) (v := v5 + 1) dX3_run_298 rfl (by decide) rfl rfl ?_
        show mW _ _ _ _ _ [some (.inr (some a0)), none, some (.inl v2), some (.inr (some a3)), some (.inl v4), some (.inl (v5 + 1)), some (.inl ((mI h (a0 + 1) v5.toNatClampNeg) &&& 15)), some (.inl (m_shr (mI h (a0 + 1) v5.toNatClampNeg) 4)), none, none] _ _ _
        refine mw_goto (tgt := 16) dX3_run_301 (by decide) ?_
        refine mw_weak (ls' := [some (.inr (some a0)), none, some (.inl v2), some (.inr (some a3)), some (.inl v4), some (.inl (v5 + 1)), none, none, none, none]) ?_ ?_
        · intro i v hv; match i, hv with
          | 0, hv => exact hv
          | 1, hv => cases hv
          | 2, hv => exact hv
          | 3, hv => exact hv
          | 4, hv => exact hv
          | 5, hv => exact hv
          | 6, hv => cases hv
          | 7, hv => cases hv
          | 8, hv => cases hv
          | 9, hv => cases hv
          | n + 10, hv => cases hv
        exact K
      · replace K := K.2 c51
        refine mw_aload_n (pc' := 59) dX3_run_58 rfl rfl ?_
        refine mw_getR (pc' := 62) dX3_run_59 rfl flX3_21 rfl (ta0) ?_
        rw [skBR_3_3 hS ta0]
        refine mw_iload (pc' := 64) dX3_run_62 rfl rfl ?_
        refine mw_iload (pc' := 66) dX3_run_64 rfl rfl ?_
        refine mw_if_ne (pc' := 69) (tgt := 74) dX3_run_66 rfl (by decide) (fun c50 => ?_) (fun c50 => ?_)
        · replace K := K.1 c50
          refine mw_aload_n (pc' := 75) dX3_run_74 rfl rfl ?_
          refine mw_iload (pc' := 77) dX3_run_75 rfl rfl ?_
          obtain ⟨o45, K⟩ := K
          refine mw_ialdL (pc' := 78) dX3_run_77 rfl (ta3) (rfl) o45 ?_
          obtain ⟨o46, K⟩ := K
          refine mw_iastK (pc' := 79) dX3_run_78 rfl (skBT_3_4 hS ta0) (skBL_3_4 hS ta0) o46 hS (fun h47 eh47 hS => ?_)
          replace K := K h47 eh47
          have ta0 : mT h47 a0 = 4 := by rw [eh47]; exact ta0
          have ta3 : mT h47 a3 = 100 := by rw [eh47]; exact ta3
          refine mw_iinc (pc' := 82) (v := v4 + 1) dX3_run_79 rfl (by decide) rfl rfl ?_
          show mW _ _ _ _ _ [some (.inr (some a0)), none, some (.inl v2), some (.inr (some a3)), some (.inl (v4 + 1)), some (.inl v5), some (.inl ((mI h (a0 + 1) v5.toNatClampNeg) &&& 15)), some (.inl (m_shr (mI h (a0 + 1) v5.toNatClampNeg) 4)), none, none] _ _ _
          refine mw_goto (tgt := 298) dX3_run_82 (by decide) ?_
          refine mw_iinc (pc' := 301) (v := v5 + 1) dX3_run_298 rfl (by decide) rfl rfl ?_
          show mW _ _ _ _ _ [some (.inr (some a0)), none, some (.inl v2), some (.inr (some a3)), some (.inl (v4 + 1)), some (.inl (v5 + 1)), some (.inl ((mI h (a0 + 1) v5.toNatClampNeg) &&& 15)), some (.inl (m_shr (mI h (a0 + 1) v5.toNatClampNeg) 4)), none, none] _ _ _
          refine mw_goto (tgt := 16) dX3_run_301 (by decide) ?_
          refine mw_weak (ls' := [some (.inr (some a0)), none, some (.inl v2), some (.inr (some a3)), some (.inl (v4 + 1)), some (.inl (v5 + 1)), none, none, none, none]) ?_ ?_
          · intro i v hv; match i, hv with
            | 0, hv => exact hv
            | 1, hv => cases hv
            | 2, hv => exact hv
            | 3, hv => exact hv
            | 4, hv => exact hv
            | 5, hv => exact hv
            | 6, hv => cases hv
            | 7, hv => cases hv
            | 8, hv => cases hv
            | 9, hv => cases hv
            | n + 10, hv => cases hv
          exact K
        · replace K := K.2 c50
          refine mw_iload (pc' := 71) dX3_run_69 rfl rfl ?_
          refine mw_goto (tgt := 78) dX3_run_71 (by decide) ?_
          obtain ⟨o48, K⟩ := K
          refine mw_iastK (pc' := 79) dX3_run_78 rfl (skBT_3_4 hS ta0) (skBL_3_4 hS ta0) o48 hS (fun h49 eh49 hS => ?_)
          replace K := K h49 eh49
          have ta0 : mT h49 a0 = 4 := by rw [eh49]; exact ta0
          have ta3 : mT h49 a3 = 100 := by rw [eh49]; exact ta3
          refine mw_iinc (pc' := 82) (v := v4 + 1) dX3_run_79 rfl (by decide) rfl rfl ?_
          show mW _ _ _ _ _ [some (.inr (some a0)), none, some (.inl v2), some (.inr (some a3)), some (.inl (v4 + 1)), some (.inl v5), some (.inl ((mI h (a0 + 1) v5.toNatClampNeg) &&& 15)), some (.inl (m_shr (mI h (a0 + 1) v5.toNatClampNeg) 4)), none, none] _ _ _
          refine mw_goto (tgt := 298) dX3_run_82 (by decide) ?_
          refine mw_iinc (pc' := 301) (v := v5 + 1) dX3_run_298 rfl (by decide) rfl rfl ?_
          show mW _ _ _ _ _ [some (.inr (some a0)), none, some (.inl v2), some (.inr (some a3)), some (.inl (v4 + 1)), some (.inl (v5 + 1)), some (.inl ((mI h (a0 + 1) v5.toNatClampNeg) &&& 15)), some (.inl (m_shr (mI h (a0 + 1) v5.toNatClampNeg) 4)), none, none] _ _ _
          refine mw_goto (tgt := 16) dX3_run_301 (by decide) ?_
          refine mw_weak (ls' := [some (.inr (some a0)), none, some (.inl v2), some (.inr (some a3)), some (.inl (v4 + 1)), some (.inl (v5 + 1)), none, none, none, none]) ?_ ?_
          · intro i v hv; match i, hv with
            | 0, hv => exact hv
            | 1, hv => cases hv
            | 2, hv => exact hv
            | 3, hv => exact hv
            | 4, hv => exact hv
            | 5, hv => exact hv
            | 6, hv => cases hv
            | 7, hv => cases hv
            | 8, hv => cases hv
            | 9, hv => cases hv
            | n + 10, hv => cases hv
          exact K
