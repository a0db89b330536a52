set_option maxRecDepth 100000 in
set_option maxHeartbeats 4000000 in
theorem qX4_read {G : mG} {d : Nat} {b : Nat × Nat} {h : mH} {Q : Option mV → mH → Prop} (v2 : Int32) (a3 : Nat) (ta3 : mT h a3 = 4) (hS : mSk h)
    (K : ∀ h1, h1 = mSR h 27 1 (some a3) → ∃ y2, mR h1 27 1 = some y2 ∧ mT h1 y2 = 4 ∧ mC G kX3_clear (d + 6) (0, 0) [.inr (some y2)] h1 (fun r h3 => r = none ∧ mSk h3 ∧ mT h3 a3 = 4 ∧ mT h3 y2 = 4 ∧ ∀ h4, h4 = mSI h3 27 2 (f_min v2 (nI 160)) → mW G kX4_read (d + 7) b 28 [some (.inr (some 27)), some (.inr (some 9)), none, none, some (.inl 0), none] [] h4 Q)) : mC G kX4_read (d + 7) b [.inr (some 27), .inr (some 9), .inl v2, .inr (some a3)] h Q := by
  refine mC_in rfl (Nat.le_of_ble_eq_true rfl) ?_
  show mW _ _ _ _ _ [some (.inr (some 27)), some (.inr (some 9)), some (.inl v2), some (.inr (some a3)), none, none] _ _ _
  refine mw_aload_n (pc' := 1) dX4_read_0 rfl rfl ?_
  refine mw_aload_n (pc' := 2) dX4_read_1 rfl rfl ?_
  refine mw_putRK (pc' := 5) dX4_read_2 rfl flX4_15 rfl (Or.inl rfl) (skT_27 hS) hS (by decide) (fun h1 eh1 hS => ?_)
  replace K := K h1 eh1
  have ta3 : mT h1 a3 = 4 := by rw [eh1]; exact ta3
  refine mw_aload_n (pc' := 6) dX4_read_5 rfl rfl ?_
  refine mw_getR (pc' := 9) dX4_read_6 rfl flX4_15 rfl (skT_27 hS) ?_
  obtain ⟨y2, ey2, ty2, K⟩ := K
  rw [ey2]
  refine mw_callV (pc' := 12) (b' := (0, 0)) (b1 := b) (av := []) (rest := []) dX4_read_9 rfl lkX4_19 rfl rfl (Nat.le_of_ble_eq_true rfl) ⟨Nat.le_of_eq (Nat.zero_add _), Nat.le_of_eq (Nat.zero_add _)⟩ (ty2) ?_
  refine mC_mono (fun r h3 hr => ?_) K
  obtain ⟨rfl, hS, ta3, ty2, K⟩ := hr
  show mW _ _ _ _ _ _ [] _ _
  refine mw_aload_n (pc' := 13) dX4_read_12 rfl rfl ?_
  refine mw_iload_n (pc' := 14) dX4_read_13 rfl rfl ?_
  refine mw_aload_n (pc' := 15) dX4_read_14 rfl rfl ?_
  refine mw_getR (pc' := 18) dX4_read_15 rfl flX4_9 rfl (skT_27 hS) ?_
  rw [skR_27_0 hS]
  refine mw_alen (pc' := 19) (t := 0) dX4_read_18 rfl (by decide) (skT_93 hS) ?_
  rw [skL_93 hS]
  refine mw_mmin (pc' := 22) dX4_read_19 rfl lkX4_24 (Nat.le_of_ble_eq_true rfl) ?_
  refine mw_putIK (pc' := 25) dX4_read_22 rfl flX4_30 rfl (Or.inl rfl) ⟨rfl, rfl⟩ (skT_27 hS) hS (fun h4 eh4 hS => ?_)
  replace K := K h4 eh4
  have ta3 : mT h4 a3 = 4 := by rw [eh4]; exact ta3
  have ty2 : mT h4 y2 = 4 := by rw [eh4]; exact ty2
  refine mw_iconst (pc' := 26) (v := 0) dX4_read_25 rfl (by decide) ?_
  refine mw_istore (pc' := 28) dX4_read_26 rfl (by decide) ?_
  show mW _ _ _ _ _ [some (.inr (some 27)), some (.inr (some 9)), some (.inl v2), some (.inr (some a3)), some (.inl 0), none] _ _ _
  refine mw_weak (ls' := [some (.inr (some 27)), some (.inr (some 9)), none, none, some (.inl 0), none]) ?_ ?_
  · intro i v hv; match i, hv with
    | 0, hv => exact hv
    | 1, hv => exact hv
    | 2, hv => cases hv
    | 3, hv => cases hv
    | 4, hv => exact hv
    | 5, hv => cases hv
    | n + 6, hv => cases hv
  exact K

set_option maxRecDepth 100000 in
set_option maxHeartbeats 4000000 in
theorem qX4_read_28 {G : mG} {d : Nat} {b : Nat × Nat} {h : mH} {Q : Option mV → mH → Prop} (v4 : Int32) (hS : mSk h)
    (K : (((mI h 27 2) ≤ v4 → ∀ h1, h1 = mSI h 27 3 0 → ∀ h2, h2 = mSI h1 27 4 0 → mW G kX4_read (d + 7) b 72 [some (.inr (some 27)), none, none, none, some (.inl 1), some (.inl 0)] [] h2 Q) ∧ (¬ ((mI h 27 2) ≤ v4) → mC G kX9_at (d + 6) (0, 0) [.inr (some 9), .inl v4] h (fun r h3 => ∃ x4, r = some (.inl x4) ∧ mSk h3 ∧ vp_in v4 160 ∧ ∀ h6, h6 = mSI h3 93 v4.toNatClampNeg x4 → mW G kX4_read (d + 7) b 28 [some (.inr (some 27)), some (.inr (some 9)), none, none, some (.inl (v4 + 1)), none] [] h6 Q)))) : mW G kX4_read (d + 7) b 28 [some (.inr (some 27)), some (.inr (some 9)), none, none, some (.inl v4), none] [] h Q := by
  refine mw_iload (pc' := 30) dX4_read_28 rfl rfl ?_
  refine mw_aload_n (pc' := 31) dX4_read_30 rfl rfl ?_
  refine mw_getI (pc' := 34) dX4_read_31 rfl flX4_30 rfl (skT_27 hS) ?_
  refine mw_icmp_ge (pc' := 37) (tgt := 56) dX4_read_34 rfl (by decide) (fun c7 => ?_) (fun c7 => ?_)
  · replace K := K.1 c7
    refine mw_aload_n (pc' := 57) dX4_read_56 rfl rfl ?_
    refine mw_iconst (pc' := 58) (v := 0) dX4_read_57 rfl (by decide) ?_
    refine mw_putIK (pc' := 61) dX4_read_58 rfl flX4_40 rfl (Or.inl rfl) ⟨rfl, rfl⟩ (skT_27 hS) hS (fun h1 eh1 hS => ?_)
    replace K := K h1 eh1
    refine mw_aload_n (pc' := 62) dX4_read_61 rfl rfl ?_
    refine mw_iconst (pc' := 63) (v := 0) dX4_read_62 rfl (by decide) ?_
    refine mw_putIK (pc' := 66) dX4_read_63 rfl flX4_42 rfl (Or.inl rfl) ⟨rfl, rfl⟩ (skT_27 hS) hS (fun h2 eh2 hS => ?_)
    replace K := K h2 eh2
    refine mw_iconst (pc' := 67) (v := 1) dX4_read_66 rfl (by decide) ?_
    refine mw_istore (pc' := 69) dX4_read_67 rfl (by decide) ?_
    show mW _ _ _ _ _ [some (.inr (some 27)), some (.inr (some 9)), none, none, some (.inl 1), none] _ _ _
    refine mw_iconst (pc' := 70) (v := 0) dX4_read_69 rfl (by decide) ?_
    refine mw_istore (pc' := 72) dX4_read_70 rfl (by decide) ?_
    show mW _ _ _ _ _ [some (.inr (some 27)), some (.inr (some 9)), none, none, some (.inl 1), some (.inl 0)] _ _ _
    refine mw_weak (ls' := [some (.inr (some 27)), none, none, none, some (.inl 1), some (.inl 0)]) ?_ ?_
    · intro i v hv; match i, hv with
      | 0, hv => exact hv
      | 1, hv => cases hv
      | 2, hv => cases hv
      | 3, hv => cases hv
      | 4, hv => exact hv
      | 5, hv => exact hv
      | n + 6, hv => cases hv
    exact K
  · replace K := K.2 c7
    refine mw_aload_n (pc' := 38) dX4_read_37 rfl rfl ?_
    refine mw_getR (pc' := 41) dX4_read_38 rfl flX4_9 rfl (skT_27 hS) ?_
    rw [skR_27_0 hS]
    refine mw_iload (pc' := 43) dX4_read_41 rfl rfl ?_
    refine mw_aload_n (pc' := 44) dX4_read_43 rfl rfl ?_
    refine mw_iload (pc' := 46) dX4_read_44 rfl rfl ?_
    refine mw_callV (pc' := 49) (b' := (0, 0)) (b1 := b) (av := [.inl v4]) (rest := [.inl v4, .inr (some 93)]) dX4_read_46 rfl lkX4_34 rfl rfl (Nat.le_of_ble_eq_true rfl) ⟨Nat.le_of_eq (Nat.zero_add _), Nat.le_of_eq (Nat.zero_add _)⟩ (skT_9 hS) ?_
    refine mC_mono (fun r h3 hr => ?_) K
    obtain ⟨x4, rfl, hS, K⟩ := hr
    show mW _ _ _ _ _ _ [.inl x4, .inl v4, .inr (some 93)] _ _
    obtain ⟨o5, K⟩ := K
    refine mw_iastK (pc' := 50) dX4_read_49 rfl (skT_93 hS) (skL_93 hS) o5 hS (fun h6 eh6 hS => ?_)
    replace K := K h6 eh6
    refine mw_iinc (pc' := 53) (v := v4 + 1) dX4_read_50 rfl (by decide) rfl rfl ?_
    show mW _ _ _ _ _ [some (.inr (some 27)), some (.inr (some 9)), none, none, some (.inl (v4 + 1)), none] _ _ _
    refine mw_goto (tgt := 28) dX4_read_53 (by decide) ?_
    exact K

set_option maxRecDepth 100000 in
set_option maxHeartbeats 4000000 in
theorem qX4_read_72 {G : mG} {d : Nat} {b : Nat × Nat} {h : mH} {Q : Option mV → mH → Prop} (v4 : Int32) (v5 : Int32) (hS : mSk h)
    (K : ((v4 = 0 → ((v4 = 0 → ((¬ (mI h 27 4) = 0 → Q (some (.inl (((-1000) * (mI h 27 4)) - (mI h 27 3)))) h) ∧ ((mI h 27 4) = 0 → ∃ y1, mR h 27 1 = some y1 ∧ mT h y1 = 4 ∧ Q (some (.inl (mI h y1 5))) h))) ∧ (¬ v4 = 0 → mC G kX4_sign (d + 6) (0, 0) [.inr (some 27)] h (fun r h3 => ∃ x4, r = some (.inl x4) ∧ mSk h3 ∧ ∀ w5 : Int32, w5 = (if ¬ x4 = 118 then 1 else 4) → mC G kX4_stop (d + 6) (0, 0) [.inr (some 27), .inl w5] h3 (fun r h6 => r = none ∧ mSk h6 ∧ ((¬ (mI h6 27 4) = 0 → Q (some (.inl (((-1000) * (mI h6 27 4)) - (mI h6 27 3)))) h6) ∧ ((mI h6 27 4) = 0 → ∃ y7, mR h6 27 1 = some y7 ∧ mT h6 y7 = 4 ∧ Q (some (.inl (mI h6 y7 5))) h6))))))) ∧ (¬ v4 = 0 → ((12 ≤ v5 → ((v4 = 0 → ((¬ (mI h 27 4) = 0 → Q (some (.inl (((-1000) * (mI h 27 4)) - (mI h 27 3)))) h) ∧ ((mI h 27 4) = 0 → ∃ y12, mR h 27 1 = some y12 ∧ mT h y12 = 4 ∧ Q (some (.inl (mI h y12 5))) h))) ∧ (¬ v4 = 0 → mC G kX4_sign (d + 6) (0, 0) [.inr (some 27)] h (fun r h14 => ∃ x15, r = some (.inl x15) ∧ mSk h14 ∧ ∀ w16 : Int32, w16 = (if ¬ x15 = 118 then 1 else 4) → mC G kX4_stop (d + 6) (0, 0) [.inr (some 27), .inl w16] h14 (fun r h17 => r = none ∧ mSk h17 ∧ ((¬ (mI h17 27 4) = 0 → Q (some (.inl (((-1000) * (mI h17 27 4)) - (mI h17 27 3)))) h17) ∧ ((mI h17 27 4) = 0 → ∃ y18, mR h17 27 1 = some y18 ∧ mT h17 y18 = 4 ∧ Q (some (.inl (mI h17 y18 5))) h17))))))) ∧ (¬ (12 ≤ v5) → mC G kX4_expect (d + 6) (0, 0) [.inr (some 27), .inl 118] h (fun r h23 => r = none ∧ mSk h23 ∧ mC G kX4_readSum (d + 6) (0, 0) [.inr (some 27), .inl 0] h23 (fun r h24 => r = none ∧ mSk h24 ∧ ∃ y25, mR h24 27 1 = some y25 ∧ mT h24 y25 = 4 ∧ mC G kX3_endSum (d + 6) (0, 0) [.inr (some y25)] h24 (fun r h26 => r = none ∧ mSk h26 ∧ mT h26 y25 = 4 ∧ mC G kX4_expect (d + 6) (0, 0) [.inr (some 27), .inl 40] h26 (fun r h27 => r = none ∧ mSk h27 ∧ mT h27 y25 = 4 ∧ mC G kX4_readCondition (d + 6) (0, 0) [.inr (some 27), .inl 1] h27 (fun r h28 => r = none ∧ mSk h28 ∧ mT h28 y25 = 4 ∧ mC G kX4_expect (d + 6) (0, 0) [.inr (some 27), .inl 41] h28 (fun r h29 => r = none ∧ mSk h29 ∧ mT h29 y25 = 4 ∧ ∃ y30, mR h29 27 1 = some y30 ∧ mT h29 y30 = 4 ∧ mC G kX3_endClause (d + 6) (0, 0) [.inr (some y30)] h29 (fun r h31 => r = none ∧ mSk h31 ∧ mT h31 y25 = 4 ∧ mT h31 y30 = 4 ∧ ((¬ (mI h31 27 4) = 0 → (((0 : Int32) = 0 → mW G kX4_read (d + 7) b 72 [some (.inr (some 27)), none, none, none, some (.inl 0), some (.inl (v5 + 1))] [] h31 Q) ∧ (¬ (0 : Int32) = 0 → mC G kX4_expect (d + 6) (0, 0) [.inr (some 27), .inl 59] h31 (fun r h32 => r = none ∧ mSk h32 ∧ mT h32 y25 = 4 ∧ mT h32 y30 = 4 ∧ mW G kX4_read (d + 7) b 72 [some (.inr (some 27)), none, none, none, some (.inl 0), some (.inl (v5 + 1))] [] h32 Q)))) ∧ ((mI h31 27 4) = 0 → ∀ w34 : Int32, w34 = (if (mI h31 27 2) ≤ (mI h31 27 3) then 0 else 1) → ((w34 = 0 → mW G kX4_read (d + 7) b 72 [some (.inr (some 27)), none, none, none, some (.inl w34), some (.inl (v5 + 1))] [] h31 Q) ∧ (¬ w34 = 0 → mC G kX4_expect (d + 6) (0, 0) [.inr (some 27), .inl 59] h31 (fun r h35 => r = none ∧ mSk h35 ∧ mT h35 y25 = 4 ∧ mT h35 y30 = 4 ∧ mW G kX4_read (d + 7) b 72 [some (.inr (some 27)), none, none, none, some (.inl w34), some (.inl (v5 + 1))] [] h35 Q))))))))))))))))) : mW G kX4_read (d + 7) b 72 [some (.inr (some 27)), none, none, none, some (.inl v4), some (.inl v5)] [] h Q := by
  refine mw_iload (pc' := 74) dX4_read_72 rfl rfl ?_
  refine mw_if_eq (pc' := 77) (tgt := 168) dX4_read_74 rfl (by decide) (fun c41 => ?_) (fun c41 => ?_)
  · replace K := K.1 c41
    refine mw_iload (pc' := 170) dX4_read_168 rfl rfl ?_
    refine mw_if_eq (pc' := 173) (tgt := 191) dX4_read_170 rfl (by decide) (fun c11 => ?_) (fun c11 => ?_)
    · replace K := K.1 c11
      refine mw_aload_n (pc' := 192) dX4_read_191 rfl rfl ?_
      refine mw_getI (pc' := 195) dX4_read_192 rfl flX4_42 rfl (skT_27 hS) ?_
      refine mw_if_ne (pc' := 198) (tgt := 208) dX4_read_195 rfl (by decide) (fun c2 => ?_) (fun c2 => ?_)
      · replace K := K.1 c2
        refine mw_sipush (pc' := 211) (v := (-1000)) dX4_read_208 rfl (by decide) ?_
        refine mw_aload_n (pc' := 212) dX4_read_211 rfl rfl ?_
        refine mw_getI (pc' := 215) dX4_read_212 rfl flX4_42 rfl (skT_27 hS) ?_
        refine mw_imul (pc' := 216) dX4_read_215 rfl ?_
        refine mw_aload_n (pc' := 217) dX4_read_216 rfl rfl ?_
        refine mw_getI (pc' := 220) dX4_read_217 rfl flX4_40 rfl (skT_27 hS) ?_
        refine mw_isub (pc' := 221) dX4_read_220 rfl ?_
        exact mw_iret dX4_read_221 rfl rfl K
      · replace K := K.2 c2
        refine mw_aload_n (pc' := 199) dX4_read_198 rfl rfl ?_
        refine mw_getR (pc' := 202) dX4_read_199 rfl flX4_15 rfl (skT_27 hS) ?_
        obtain ⟨y1, ey1, ty1, K⟩ := K
        rw [ey1]
        refine mw_getI (pc' := 205) dX4_read_202 rfl flX4_69 rfl (ty1) ?_
        refine mw_goto (tgt := 221) dX4_read_205 (by decide) ?_
        exact mw_iret dX4_read_221 rfl rfl K
    · replace K := K.2 c11
      refine mw_aload_n (pc' := 174) dX4_read_173 rfl rfl ?_
      refine mw_aload_n (pc' := 175) dX4_read_174 rfl rfl ?_
      refine mw_callV (pc' := 178) (b' := (0, 0)) (b1 := b) (av := []) (rest := [.inr (some 27)]) dX4_read_175 rfl lkX4_62 rfl rfl (Nat.le_of_ble_eq_true rfl) ⟨Nat.le_of_eq (Nat.zero_add _), Nat.le_of_eq (Nat.zero_add _)⟩ (skT_27 hS) ?_
      refine mC_mono (fun r h3 hr => ?_) K
      obtain ⟨x4, rfl, hS, K⟩ := hr
      show mW _ _ _ _ _ _ [.inl x4, .inr (some 27)] _ _
      refine mw_bipush (pc' := 180) (v := 118) dX4_read_178 rfl (by decide) ?_
      have J9 : ∀ w5 : Int32, w5 = (if ¬ x4 = 118 then 1 else 4) → mW G kX4_read (d + 7) b 188 [some (.inr (some 27)), none, none, none, some (.inl v4), some (.inl v5)] ([.inl w5, .inr (some 27)]) h3 Q := by
        intro w5 ew5
        replace K := K w5 ew5
        refine mw_callV (pc' := 191) (b' := (0, 0)) (b1 := b) (av := [.inl w5]) (rest := []) dX4_read_188 rfl lkX4_66 rfl rfl (Nat.le_of_ble_eq_true rfl) ⟨Nat.le_of_eq (Nat.zero_add _), Nat.le_of_eq (Nat.zero_add _)⟩ (skT_27 hS) ?_
        refine mC_mono (fun r h6 hr => ?_) K
        obtain ⟨rfl, hS, K⟩ := hr
        show mW _ _ _ _ _ _ [] _ _
        refine mw_aload_n (pc' := 192) dX4_read_191 rfl rfl ?_
        refine mw_getI (pc' := 195) dX4_read_192 rfl flX4_42 rfl (skT_27 hS) ?_
        refine mw_if_ne (pc' := 198) (tgt := 208) dX4_read_195 rfl (by decide) (fun c8 => ?_) (fun c8 => ?_)
        · replace K := K.1 c8
          refine mw_sipush (pc' := 211) (v := (-1000)) dX4_read_208 rfl (by decide) ?_
          refine mw_aload_n (pc' := 212) dX4_read_211 rfl rfl ?_
          refine mw_getI (pc' := 215) dX4_read_212 rfl flX4_42 rfl (skT_27 hS) ?_
          refine mw_imul (pc' := 216) dX4_read_215 rfl ?_
          refine mw_aload_n (pc' := 217) dX4_read_216 rfl rfl ?_
          refine mw_getI (pc' := 220) dX4_read_217 rfl flX4_40 rfl (skT_27 hS) ?_
          refine mw_isub (pc' := 221) dX4_read_220 rfl ?_
          exact mw_iret dX4_read_221 rfl rfl K
        · replace K := K.2 c8
          refine mw_aload_n (pc' := 199) dX4_read_198 rfl rfl ?_
          refine mw_getR (pc' := 202) dX4_read_199 rfl flX4_15 rfl (skT_27 hS) ?_
          obtain ⟨y7, ey7, ty7, K⟩ := K
          rw [ey7]
          refine mw_getI (pc' := 205) dX4_read_202 rfl flX4_69 rfl (ty7) ?_
          refine mw_goto (tgt := 221) dX4_read_205 (by decide) ?_
          exact mw_iret dX4_read_221 rfl rfl K
      refine mw_icmp_ne (pc' := 183) (tgt := 187) dX4_read_180 rfl (by decide) (fun c10 => ?_) (fun c10 => ?_)
      · refine mw_iconst (pc' := 188) (v := 1) dX4_read_187 rfl (by decide) ?_
        exact J9 _ (by rw [if_pos c10])
      · refine mw_iconst (pc' := 184) (v := 4) dX4_read_183 rfl (by decide) ?_
        refine mw_goto (tgt := 188) dX4_read_184 (by decide) ?_
        exact J9 _ (by rw [if_neg (fun z => z c10)])
  · replace K := K.2 c41
    refine mw_iload (pc' := 79) dX4_read_77 rfl rfl ?_
    refine mw_bipush (pc' := 81) (v := 12) dX4_read_79 rfl (by decide) ?_
    refine mw_icmp_ge (pc' := 84) (tgt := 168) dX4_read_81 rfl (by decide) (fun c40 => ?_) (fun c40 => ?_)
    · replace K := K.1 c40
      refine mw_iload (pc' := 170) dX4_read_168 rfl rfl ?_
      refine mw_if_eq (pc' := 173) (tgt := 191) dX4_read_170 rfl (by decide) (fun c22 => ?_) (fun c22 => ?_)
      · replace K := K.1 c22
        refine mw_aload_n (pc' := 192) dX4_read_191 rfl rfl ?_
        refine mw_getI (pc' := 195) dX4_read_192 rfl flX4_42 rfl (skT_27 hS) ?_
        refine mw_if_ne (pc' := 198) (tgt := 208) dX4_read_195 rfl (by decide) (fun c13 => ?_) (fun c13 => ?_)
        · replace K := K.1 c13
          refine mw_sipush (pc' := 211) (v := (-1000)) dX4_read_208 rfl (by decide) ?_
          refine mw_aload_n (pc' := 212) dX4_read_211 rfl rfl ?_
          refine mw_getI (pc' := 215) dX4_read_212 rfl flX4_42 rfl (skT_27 hS) ?_
          refine mw_imul (pc' := 216) dX4_read_215 rfl ?_
          refine mw_aload_n (pc' := 217) dX4_read_216 rfl rfl ?_
          refine mw_getI (pc' := 220) dX4_read_217 rfl flX4_40 rfl (skT_27 hS) ?_
          refine mw_isub (pc' := 221) dX4_read_220 rfl ?_
          exact mw_iret dX4_read_221 rfl rfl K
        · replace K := K.2 c13
          refine mw_aload_n (pc' := 199) dX4_read_198 rfl rfl ?_
          refine mw_getR (pc' := 202) dX4_read_199 rfl flX4_15 rfl (skT_27 hS) ?_
          obtain ⟨y12, ey12, ty12, K⟩ := K
          rw [ey12]
          refine mw_getI (pc' := 205) dX4_read_202 rfl flX4_69 rfl (ty12) ?_
          refine mw_goto (tgt := 221) dX4_read_205 (by decide) ?_
          exact mw_iret dX4_read_221 rfl rfl K
      · replace K := K.2 c22
        refine mw_aload_n (pc' := 174) dX4_read_173 rfl rfl ?_
        refine mw_aload_n (pc' := 175) dX4_read_174 rfl rfl ?_
        refine mw_callV (pc' := 178) (b' := (0, 0)) (b1 := b) (av := []) (rest := [.inr (some 27)]) dX4_read_175 rfl lkX4_62 rfl rfl (Nat.le_of_ble_eq_true rfl) ⟨Nat.le_of_eq (Nat.zero_add _), Nat.le_of_eq (Nat.zero_add _)⟩ (skT_27 hS) ?_
        refine mC_mono (fun r h14 hr => ?_) K
        obtain ⟨x15, rfl, hS, K⟩ := hr
        show mW _ _ _ _ _ _ [.inl x15, .inr (some 27)] _ _
        refine mw_bipush (pc' := 180) (v := 118) dX4_read_178 rfl (by decide) ?_
        have J20 : ∀ w16 : Int32, w16 = (if ¬ x15 = 118 then 1 else 4) → mW G kX4_read (d + 7) b 188 [some (.inr (some 27)), none, none, none, some (.inl v4), some (.inl v5)] ([.inl w16, .inr (some 27)]) h14 Q := by
          intro w16 ew16
          replace K := K w16 ew16
          refine mw_callV (pc' := 191) (b' := (0, 0)) (b1 := b) (av := [.inl w16]) (rest := []) dX4_read_188 rfl lkX4_66 rfl rfl (Nat.le_of_ble_eq_true rfl) ⟨Nat.le_of_eq (Nat.zero_add _), Nat.le_of_eq (Nat.zero_add _)⟩ (skT_27 hS) ?_
          refine mC_mono (fun r h17 hr => ?_) K
          obtain ⟨rfl, hS, K⟩ := hr
          show mW _ _ _ _ _ _ [] _ _
          refine mw_aload_n (pc' := 192) dX4_read_191 rfl rfl ?_
          refine mw_getI (pc' := 195) dX4_read_192 rfl flX4_42 rfl (skT_27 hS) ?_
          refine mw_if_ne (pc' := 198) (tgt := 208) dX4_read_195 rfl (by decide) (fun c19 => ?_) (fun c19 => ?_)
          · replace K := K.1 c19
            refine mw_sipush (pc' := 211) (v := (-1000)) dX4_read_208 rfl (by decide) ?_
            refine mw_aload_n (pc' := 212) dX4_read_211 rfl rfl ?_
            refine mw_getI (pc' := 215) dX4_read_212 rfl flX4_42 rfl (skT_27 hS) ?_
            refine mw_imul (pc' := 216) dX4_read_215 rfl ?_
            refine mw_aload_n (pc' := 217) dX4_read_216 rfl rfl ?_
            refine mw_getI (pc' := 220) dX4_read_217 rfl flX4_40 rfl (skT_27 hS) ?_
            refine mw_isub (pc' := 221) dX4_read_220 rfl ?_
            exact mw_iret dX4_read_221 rfl rfl K
          · replace K := K.2 c19
            refine mw_aload_n (pc' := 199) dX4_read_198 rfl rfl ?_
            refine mw_getR (pc' := 202) dX4_read_199 rfl flX4_15 rfl (skT_27 hS) ?_
            obtain ⟨y18, ey18, ty18, K⟩ := K
            rw [ey18]
            refine mw_getI (pc' := 205) dX4_read_202 rfl flX4_69 rfl (ty18) ?_
            refine mw_goto (tgt := 221) dX4_read_205 (by decide) ?_
            exact mw_iret dX4_read_221 rfl rfl K
        refine mw_icmp_ne (pc' := 183) (tgt := 187) dX4_read_180 rfl (by decide) (fun c21 => ?_) (fun c21 => ?_)
        · refine mw_iconst (pc' := 188) (v := 1) dX4_read_187 rfl (by decide) ?_
          exact J20 _ (by rw [if_pos c21])
        · refine mw_iconst (pc' := 184) (v := 4) dX4_read_183 rfl (by decide) ?_
          refine mw_goto (tgt := 188) dX4_read_184 (by decide) ?_
          exact J20 _ (by rw [if_neg (fun z => z c21)])
    · replace K := K.2 c40
      refine mw_aload_n (pc' := 85) dX4_read_84 rfl rfl ?_
      refine mw_bipush (pc' := 87) (v := 118) dX4_read_85 rfl (by decide) ?_
      refine mw_callV (pc' := 90) (b' := (0, 0)) (b1 := b) (av := [.inl 118]) (rest := []) dX4_read_87 rfl lkX4_45 rfl rfl (Nat.le_of_ble_eq_true rfl) ⟨Nat.le_of_eq (Nat.zero_add _), Nat.le_of_eq (Nat.zero_add _)⟩ (skT_27 hS) ?_
      refine mC_mono (fun r h23 hr => ?_) K
      obtain ⟨rfl, hS, K⟩ := hr
      show mW _ _ _ _ _ _ [] _ _
      refine mw_aload_n (pc' := 91) dX4_read_90 rfl rfl ?_
      refine mw_iconst (pc' := 92) (v := 0) dX4_read_91 rfl (by decide) ?_
      refine mw_callV (pc' := 95) (b' := (0, 0)) (b1 := b) (av := [.inl 0]) (rest := []) dX4_read_92 rfl lkX4_49 rfl rfl (Nat.le_of_ble_eq_true rfl) ⟨Nat.le_of_eq (Nat.zero_add _), Nat.le_of_eq (Nat.zero_add _)⟩ (skT_27 hS) ?_
      refine mC_mono (fun r h24 hr => ?_) K
      obtain ⟨rfl, hS, K⟩ := hr
      show mW _ _ _ _ _ _ [] _ _
      refine mw_aload_n (pc' := 96) dX4_read_95 rfl rfl ?_
      refine mw_getR (pc' := 99) dX4_read_96 rfl flX4_15 rfl (skT_27 hS) ?_
      obtain ⟨y25, ey25, ty25, K⟩ := K
      rw [ey25]
      refine mw_callV (pc' := 102) (b' := (0, 0)) (b1 := b) (av := []) (rest := []) dX4_read_99 rfl lkX4_53 rfl rfl (Nat.le_of_ble_eq_true rfl) ⟨Nat.le_of_eq (Nat.zero_add _), Nat.le_of_eq (Nat.zero_add _)⟩ (ty25) ?_
      refine mC_mono (fun r h26 hr => ?_) K
      obtain ⟨rfl, hS, ty25, K⟩ := hr
      show mW _ _ _ _ _ _ [] _ _
      refine mw_aload_n (pc' := 103) dX4_read_102 rfl rfl ?_
      refine mw_bipush (pc' := 105) (v := 40) dX4_read_103 rfl (by decide) ?_
      refine mw_callV (pc' := 108) (b' := (0, 0)) (b1 := b) (av := [.inl 40]) (rest := []) dX4_read_105 rfl lkX4_45 rfl rfl (Nat.le_of_ble_eq_true rfl) ⟨Nat.le_of_eq (Nat.zero_add _), Nat.le_of_eq (Nat.zero_add _)⟩ (skT_27 hS) ?_
      refine mC_mono (fun r h27 hr => ?_) K
      obtain ⟨rfl, hS, ty25, K⟩ := hr
      show mW _ _ _ _ _ _ [] _ _
      refine mw_aload_n (pc' := 109) dX4_read_108 rfl rfl ?_
      refine mw_iconst (pc' := 110) (v := 1) dX4_read_109 rfl (by decide) ?_
      refine mw_callV (pc' := 113) (b' := (0, 0)) (b1 := b) (av := [.inl 1]) (rest := []) dX4_read_110 rfl lkX4_56 rfl rfl (Nat.le_of_ble_eq_true rfl) ⟨Nat.le_of_eq (Nat.zero_add _), Nat.le_of_eq (Nat.zero_add _)⟩ (skT_27 hS) ?_
      refine mC_mono (fun r h28 hr => ?_) K
      obtain ⟨rfl, hS, ty25, K⟩ := hr
      show mW _ _ _ _ _ _ [] _ _
      refine mw_aload_n (pc' := 114) dX4_read_113 rfl rfl ?_
      refine mw_bipush (pc' := 116) (v := 41) dX4_read_114 rfl (by decide) ?_
      refine mw_callV (pc' := 119) (b' := (0, 0)) (b1 := b) (av := [.inl 41]) (rest := []) dX4_read_116 rfl lkX4_45 rfl rfl (Nat.le_of_ble_eq_true rfl) ⟨Nat.le_of_eq (Nat.zero_add _), Nat.le_of_eq (Nat.zero_add _)⟩ (skT_27 hS) ?_
      refine mC_mono (fun r h29 hr => ?_) K
      obtain ⟨rfl, hS, ty25, K⟩ := hr
      show mW _ _ _ _ _ _ [] _ _
      refine mw_aload_n (pc' := 120) dX4_read_119 rfl rfl ?_
      refine mw_getR (pc' := 123) dX4_read_120 rfl flX4_15 rfl (skT_27 hS) ?_
      obtain ⟨y30, ey30, ty30, K⟩ := K
      rw [ey30]
      refine mw_callV (pc' := 126) (b' := (0, 0)) (b1 := b) (av := []) (rest := []) dX4_read_123 rfl lkX4_59 rfl rfl (Nat.le_of_ble_eq_true rfl) ⟨Nat.le_of_eq (Nat.zero_add _), Nat.le_of_eq (Nat.zero_add _)⟩ (ty30) ?_
      refine mC_mono (fun r h31 hr => ?_) K
      obtain ⟨rfl, hS, ty25, ty30, K⟩ := hr
      show mW _ _ _ _ _ _ [] _ _
      refine mw_aload_n (pc' := 127) dX4_read_126 rfl rfl ?_
      refine mw_getI (pc' := 130) dX4_read_127 rfl flX4_42 rfl (skT_27 hS) ?_
      refine mw_if_ne (pc' := 133) (tgt := 148) dX4_read_130 rfl (by decide) (fun c39 => ?_) (fun c39 => ?_)
      · replace K := K.1 c39
        refine mw_iconst (pc' := 149) (v := 0) dX4_read_148 rfl (by decide) ?_
        refine mw_istore (pc' := 151) dX4_read_149 rfl (by decide) ?_
        show mW _ _ _ _ _ [some (.inr (some 27)), none, none, none, some (.inl 0), some (.inl v5)] _ _ _
        refine mw_iload (pc' := 153) dX4_read_151 rfl rfl ?_
        refine mw_if_eq (pc' := 156) (tgt := 162) dX4_read_153 rfl (by decide) (fun c33 => ?_) (fun c33 => ?_)
        · replace K := K.1 c33
          refine mw_iinc (pc' := 165) (v := v5 + 1) dX4_read_162 rfl (by decide) rfl rfl ?_
          show mW _ _ _ _ _ [some (.inr (some 27)), none, none, none, some (.inl 0), some (.inl (v5 + 1))] _ _ _
          refine mw_goto (tgt := 72) dX4_read_165 (by decide) ?_
          exact K
        · replace K := K.2 c33
          refine mw_aload_n (pc' := 157) dX4_read_156 rfl rfl ?_
          refine mw_bipush (pc' := 159) (v := 59) dX4_read_157 rfl (by decide) ?_
          refine mw_callV (pc' := 162) (b' := (0, 0)) (b1 := b) (av := [.inl 59]) (rest := []) dX4_read_159 rfl lkX4_45 rfl rfl (Nat.le_of_ble_eq_true rfl) ⟨Nat.le_of_eq (Nat.zero_add _), Nat.le_of_eq (Nat.zero_add _)⟩ (skT_27 hS) ?_
          refine mC_mono (fun r h32 hr => ?_) K
          obtain ⟨rfl, hS, ty25, ty30, K⟩ := hr
          show mW _ _ _ _ _ _ [] _ _
          refine mw_iinc (pc' := 165) (v := v5 + 1) dX4_read_162 rfl (by decide) rfl rfl ?_
          show mW _ _ _ _ _ [some (.inr (some 27)), none, none, none, some (.inl 0), some (.inl (v5 + 1))] _ _ _
          refine mw_goto (tgt := 72) dX4_read_165 (by decide) ?_
          exact K
      · replace K := K.2 c39
        refine mw_aload_n (pc' := 134) dX4_read_133 rfl rfl ?_
        refine mw_getI (pc' := 137) dX4_read_134 rfl flX4_40 rfl (skT_27 hS) ?_
        refine mw_aload_n (pc' := 138) dX4_read_137 rfl rfl ?_
        refine mw_getI (pc' := 141) dX4_read_138 rfl flX4_30 rfl (skT_27 hS) ?_
        have J37 : ∀ w34 : Int32, w34 = (if (mI h31 27 2) ≤ (mI h31 27 3) then 0 else 1) → mW G kX4_read (d + 7) b 149 [some (.inr (some 27)), none, none, none, some (.inl v4), some (.inl v5)] ([.inl w34]) h31 Q := by
          intro w34 ew34
          replace K := K w34 ew34
          refine mw_istore (pc' := 151) dX4_read_149 rfl (by decide) ?_
          show mW _ _ _ _ _ [some (.inr (some 27)), none, none, none, some (.inl w34), some (.inl v5)] _ _ _
          refine mw_iload (pc' := 153) dX4_read_151 rfl rfl ?_
          refine mw_if_eq (pc' := 156) (tgt := 162) dX4_read_153 rfl (by decide) (fun c36 => ?_) (fun c36 => ?_)
          · replace K := K.1 c36
            refine mw_iinc (pc' := 165) (v := v5 + 1) dX4_read_162 rfl (by decide) rfl rfl ?_
            show mW _ _ _ _ _ [some (.inr (some 27)), none, none, none, some (.inl w34), some (.inl (v5 + 1))] _ _ _
            refine mw_goto (tgt := 72) dX4_read_165 (by decide) ?_
            exact K
          · replace K := K.2 c36
            refine mw_aload_n (pc' := 157) dX4_read_156 rfl rfl ?_
            refine mw_bipush (pc' := 159) (v := 59) dX4_read_157 rfl (by decide) ?_
            refine mw_callV (pc' := 162) (b' := (0, 0)) (b1 := b) (av := [.inl 59]) (rest := []) dX4_read_159 rfl lkX4_45 rfl rfl (Nat.le_of_ble_eq_true rfl) ⟨Nat.le_of_eq (Nat.zero_add _), Nat.le_of_eq (Nat.zero_add _)⟩ (skT_27 hS) ?_
            refine mC_mono (fun r h35 hr => ?_) K
            obtain ⟨rfl, hS, ty25, ty30, K⟩ := hr
            show mW _ _ _ _ _ _ [] _ _
            refine mw_iinc (pc' := 165) (v := v5 + 1) dX4_read_162 rfl (by decide) rfl rfl ?_
            show mW _ _ _ _ _ [some (.inr (some 27)), none, none, none, some (.inl w34), some (.inl (v5 + 1))] _ _ _
            refine mw_goto (tgt := 72) dX4_read_165 (by decide) ?_
            exact K
        refine mw_icmp_ge (pc' := 144) (tgt := 148) dX4_read_141 rfl (by decide) (fun c38 => ?_) (fun c38 => ?_)
        · refine mw_iconst (pc' := 149) (v := 0) dX4_read_148 rfl (by decide) ?_
          exact J37 _ (by rw [if_pos c38])
        · refine mw_iconst (pc' := 145) (v := 1) dX4_read_144 rfl (by decide) ?_
          refine mw_goto (tgt := 149) dX4_read_145 (by decide) ?_
          exact J37 _ (by rw [if_neg c38])

set_option maxRecDepth 100000 in
set_option maxHeartbeats 4000000 in
theorem qX4_readCondition {G : mG} {d : Nat} {b : Nat × Nat} {h : mH} {Q : Option mV → mH → Prop} (v1 : Int32) (hS : mSk h)
    (K : mW G kX4_readCondition (d + 6) b 10 [some (.inr (some 27)), some (.inl v1), some (.inl (-1)), some (.inl (-1)), some (.inl 1), some (.inl 0)] [] h Q) : mC G kX4_readCondition (d + 6) b [.inr (some 27), .inl v1] h Q := by
  refine mC_in rfl (Nat.le_of_ble_eq_true rfl) ?_
  show mW _ _ _ _ _ [some (.inr (some 27)), some (.inl v1), none, none, none, none] _ _ _
  refine mw_iconst (pc' := 1) (v := (-1)) dX4_readCondition_0 rfl (by decide) ?_
  refine mw_istore_n (pc' := 2) dX4_readCondition_1 rfl (by decide) ?_
  show mW _ _ _ _ _ [some (.inr (some 27)), some (.inl v1), some (.inl (-1)), none, none, none] _ _ _
  refine mw_iconst (pc' := 3) (v := (-1)) dX4_readCondition_2 rfl (by decide) ?_
  refine mw_istore_n (pc' := 4) dX4_readCondition_3 rfl (by decide) ?_
  show mW _ _ _ _ _ [some (.inr (some 27)), some (.inl v1), some (.inl (-1)), some (.inl (-1)), none, none] _ _ _
  refine mw_iconst (pc' := 5) (v := 1) dX4_readCondition_4 rfl (by decide) ?_
  refine mw_istore (pc' := 7) dX4_readCondition_5 rfl (by decide) ?_
  show mW _ _ _ _ _ [some (.inr (some 27)), some (.inl v1), some (.inl (-1)), some (.inl (-1)), some (.inl 1), none] _ _ _
  refine mw_iconst (pc' := 8) (v := 0) dX4_readCondition_7 rfl (by decide) ?_
  refine mw_istore (pc' := 10) dX4_readCondition_8 rfl (by decide) ?_
  show mW _ _ _ _ _ [some (.inr (some 27)), some (.inl v1), some (.inl (-1)), some (.inl (-1)), some (.inl 1), some (.inl 0)] _ _ _
  exact K

set_option maxRecDepth 100000 in
set_option maxHeartbeats 4000000 in
theorem qX4_readCondition_10 {G : mG} {d : Nat} {b : Nat × Nat} {h : mH} {Q : Option mV → mH → Prop} (v1 : Int32) (v2 : Int32) (v3 : Int32) (v4 : Int32) (v5 : Int32) (hS : mSk h)
    (K : ((v4 = 0 → Q none h) ∧ (¬ v4 = 0 → ((160 ≤ v5 → Q none h) ∧ (¬ (160 ≤ v5) → mC G kX4_readPiece (d + 5) (0, 0) [.inr (some 27), .inl v1] h (fun r h1 => r = none ∧ mSk h1 ∧ ∃ y2, mR h1 27 1 = some y2 ∧ mT h1 y2 = 4 ∧ mC G kX3_aimHere (d + 5) (0, 0) [.inr (some y2), .inl v3] h1 (fun r h3 => r = none ∧ mSk h3 ∧ mT h3 y2 = 4 ∧ mC G kX4_takes (d + 5) (0, 0) [.inr (some 27), .inl 38] h3 (fun r h4 => ∃ x5, r = some (.inl x5) ∧ mSk h4 ∧ mT h4 y2 = 4 ∧ ((x5 = 0 → ∃ y6, mR h4 27 1 = some y6 ∧ mT h4 y6 = 4 ∧ mC G kX3_aimHere (d + 5) (0, 0) [.inr (some y6), .inl v2] h4 (fun r h7 => r = none ∧ mSk h7 ∧ mT h7 y2 = 4 ∧ mT h7 y6 = 4 ∧ mC G kX4_takes (d + 5) (0, 0) [.inr (some 27), .inl 124] h7 (fun r h8 => ∃ x9, r = some (.inl x9) ∧ mSk h8 ∧ mT h8 y2 = 4 ∧ mT h8 y6 = 4 ∧ ((x9 = 0 → mW G kX4_readCondition (d + 6) b 10 [some (.inr (some 27)), some (.inl v1), some (.inl (-1)), some (.inl (-1)), some (.inl x9), some (.inl (v5 + 1))] [] h8 Q) ∧ (¬ x9 = 0 → ∃ y10, mR h8 27 1 = some y10 ∧ mT h8 y10 = 4 ∧ mC G kX3_add (d + 5) (0, 0) [.inr (some y10), .inl 11, .inl 0] h8 (fun r h11 => ∃ x12, r = some (.inl x12) ∧ mSk h11 ∧ mT h11 y2 = 4 ∧ mT h11 y6 = 4 ∧ mT h11 y10 = 4 ∧ mW G kX4_readCondition (d + 6) b 10 [some (.inr (some 27)), some (.inl v1), some (.inl x12), some (.inl (-1)), some (.inl x9), some (.inl (v5 + 1))] [] h11 Q)))))) ∧ (¬ x5 = 0 → ∃ y14, mR h4 27 1 = some y14 ∧ mT h4 y14 = 4 ∧ mC G kX3_add (d + 5) (0, 0) [.inr (some y14), .inl 12, .inl 0] h4 (fun r h15 => ∃ x16, r = some (.inl x16) ∧ mSk h15 ∧ mT h15 y2 = 4 ∧ mT h15 y14 = 4 ∧ mW G kX4_readCondition (d + 6) b 10 [some (.inr (some 27)), some (.inl v1), some (.inl v2), some (.inl x16), some (.inl x5), some (.inl (v5 + 1))] [] h15 Q))))))))))) : mW G kX4_readCondition (d + 6) b 10 [some (.inr (some 27)), some (.inl v1), some (.inl v2), some (.inl v3), some (.inl v4), some (.inl v5)] [] h Q := by
  refine mw_iload (pc' := 12) dX4_readCondition_10 rfl rfl ?_
  refine mw_if_eq (pc' := 15) (tgt := 105) dX4_readCondition_12 rfl (by decide) (fun c19 => ?_) (fun c19 => ?_)
  · replace K := K.1 c19
    exact mw_ret dX4_readCondition_105 rfl K
  · replace K := K.2 c19
    refine mw_iload (pc' := 17) dX4_readCondition_15 rfl rfl ?_
    refine mw_sipush (pc' := 20) (v := 160) dX4_readCondition_17 rfl (by decide) ?_
    refine mw_icmp_ge (pc' := 23) (tgt := 105) dX4_readCondition_20 rfl (by decide) (fun c18 => ?_) (fun c18 => ?_)
    · replace K := K.1 c18
      exact mw_ret dX4_readCondition_105 rfl K
    · replace K := K.2 c18
      refine mw_aload_n (pc' := 24) dX4_readCondition_23 rfl rfl ?_
      refine mw_iload_n (pc' := 25) dX4_readCondition_24 rfl rfl ?_
      refine mw_callV (pc' := 28) (b' := (0, 0)) (b1 := b) (av := [.inl v1]) (rest := []) dX4_readCondition_25 rfl lkX4_72 rfl rfl (Nat.le_of_ble_eq_true rfl) ⟨Nat.le_of_eq (Nat.zero_add _), Nat.le_of_eq (Nat.zero_add _)⟩ (skT_27 hS) ?_
      refine mC_mono (fun r h1 hr => ?_) K
      obtain ⟨rfl, hS, K⟩ := hr
      show mW _ _ _ _ _ _ [] _ _
      refine mw_aload_n (pc' := 29) dX4_readCondition_28 rfl rfl ?_
      refine mw_getR (pc' := 32) dX4_readCondition_29 rfl flX4_15 rfl (skT_27 hS) ?_
      refine mw_iload_n (pc' := 33) dX4_readCondition_32 rfl rfl ?_
      obtain ⟨y2, ey2, ty2, K⟩ := K
      rw [ey2]
      refine mw_callV (pc' := 36) (b' := (0, 0)) (b1 := b) (av := [.inl v3]) (rest := []) dX4_readCondition_33 rfl lkX4_75 rfl rfl (Nat.le_of_ble_eq_true rfl) ⟨Nat.le_of_eq (Nat.zero_add _), Nat.le_of_eq (Nat.zero_add _)⟩ (ty2) ?_
      refine mC_mono (fun r h3 hr => ?_) K
      obtain ⟨rfl, hS, ty2, K⟩ := hr
      show mW _ _ _ _ _ _ [] _ _
      refine mw_iconst (pc' := 37) (v := (-1)) dX4_readCondition_36 rfl (by decide) ?_
      refine mw_istore_n (pc' := 38) dX4_readCondition_37 rfl (by decide) ?_
      show mW _ _ _ _ _ [some (.inr (some 27)), some (.inl v1), some (.inl v2), some (.inl (-1)), some (.inl v4), some (.inl v5)] _ _ _
      refine mw_aload_n (pc' := 39) dX4_readCondition_38 rfl rfl ?_
      refine mw_bipush (pc' := 41) (v := 38) dX4_readCondition_39 rfl (by decide) ?_
      refine mw_callV (pc' := 44) (b' := (0, 0)) (b1 := b) (av := [.inl 38]) (rest := []) dX4_readCondition_41 rfl lkX4_78 rfl rfl (Nat.le_of_ble_eq_true rfl) ⟨Nat.le_of_eq (Nat.zero_add _), Nat.le_of_eq (Nat.zero_add _)⟩ (skT_27 hS) ?_
      refine mC_mono (fun r h4 hr => ?_) K
      obtain ⟨x5, rfl, hS, ty2, K⟩ := hr
      show mW _ _ _ _ _ _ [.inl x5] _ _
      refine mw_istore (pc' := 46) dX4_readCondition_44 rfl (by decide) ?_
      show mW _ _ _ _ _ [some (.inr (some 27)), some (.inl v1), some (.inl v2), some (.inl (-1)), some (.inl x5), some (.inl v5)] _ _ _
      refine mw_iload (pc' := 48) dX4_readCondition_46 rfl rfl ?_
      refine mw_if_eq (pc' := 51) (tgt := 65) dX4_readCondition_48 rfl (by decide) (fun c17 => ?_) (fun c17 => ?_)
      · replace K := K.1 c17
        refine mw_aload_n (pc' := 66) dX4_readCondition_65 rfl rfl ?_
        refine mw_getR (pc' := 69) dX4_readCondition_66 rfl flX4_15 rfl (skT_27 hS) ?_
        refine mw_iload_n (pc' := 70) dX4_readCondition_69 rfl rfl ?_
        obtain ⟨y6, ey6, ty6, K⟩ := K
        rw [ey6]
        refine mw_callV (pc' := 73) (b' := (0, 0)) (b1 := b) (av := [.inl v2]) (rest := []) dX4_readCondition_70 rfl lkX4_75 rfl rfl (Nat.le_of_ble_eq_true rfl) ⟨Nat.le_of_eq (Nat.zero_add _), Nat.le_of_eq (Nat.zero_add _)⟩ (ty6) ?_
        refine mC_mono (fun r h7 hr => ?_) K
        obtain ⟨rfl, hS, ty2, ty6, K⟩ := hr
        show mW _ _ _ _ _ _ [] _ _
        refine mw_iconst (pc' := 74) (v := (-1)) dX4_readCondition_73 rfl (by decide) ?_
        refine mw_istore_n (pc' := 75) dX4_readCondition_74 rfl (by decide) ?_
        show mW _ _ _ _ _ [some (.inr (some 27)), some (.inl v1), some (.inl (-1)), some (.inl (-1)), some (.inl x5), some (.inl v5)] _ _ _
        refine mw_aload_n (pc' := 76) dX4_readCondition_75 rfl rfl ?_
        refine mw_bipush (pc' := 78) (v := 124) dX4_readCondition_76 rfl (by decide) ?_
        refine mw_callV (pc' := 81) (b' := (0, 0)) (b1 := b) (av := [.inl 124]) (rest := []) dX4_readCondition_78 rfl lkX4_78 rfl rfl (Nat.le_of_ble_eq_true rfl) ⟨Nat.le_of_eq (Nat.zero_add _), Nat.le_of_eq (Nat.zero_add _)⟩ (skT_27 hS) ?_
        refine mC_mono (fun r h8 hr => ?_) K
        obtain ⟨x9, rfl, hS, ty2, ty6, K⟩ := hr
        show mW _ _ _ _ _ _ [.inl x9] _ _
        refine mw_istore (pc' := 83) dX4_readCondition_81 rfl (by decide) ?_
        show mW _ _ _ _ _ [some (.inr (some 27)), some (.inl v1), some (.inl (-1)), some (.inl (-1)), some (.inl x9), some (.inl v5)] _ _ _
        refine mw_iload (pc' := 85) dX4_readCondition_83 rfl rfl ?_
        refine mw_if_eq (pc' := 88) (tgt := 99) dX4_readCondition_85 rfl (by decide) (fun c13 => ?_) (fun c13 => ?_)
        · replace K := K.1 c13
          refine mw_iinc (pc' := 102) (v := v5 + 1) dX4_readCondition_99 rfl (by decide) rfl rfl ?_
          show mW _ _ _ _ _ [some (.inr (some 27)), some (.inl v1), some (.inl (-1)), some (.inl (-1)), some (.inl x9), some (.inl (v5 + 1))] _ _ _
          refine mw_goto (tgt := 10) dX4_readCondition_102 (by decide) ?_
          exact K
        · replace K := K.2 c13
          refine mw_aload_n (pc' := 89) dX4_readCondition_88 rfl rfl ?_
          refine mw_getR (pc' := 92) dX4_readCondition_89 rfl flX4_15 rfl (skT_27 hS) ?_
          refine mw_bipush (pc' := 94) (v := 11) dX4_readCondition_92 rfl (by decide) ?_
          refine mw_iconst (pc' := 95) (v := 0) dX4_readCondition_94 rfl (by decide) ?_
          obtain ⟨y10, ey10, ty10, K⟩ := K
          rw [ey10]
          refine mw_callV (pc' := 98) (b' := (0, 0)) (b1 := b) (av := [.inl 11, .inl 0]) (rest := []) dX4_readCondition_95 rfl lkX4_82 rfl rfl (Nat.le_of_ble_eq_true rfl) ⟨Nat.le_of_eq (Nat.zero_add _), Nat.le_of_eq (Nat.zero_add _)⟩ (ty10) ?_
          refine mC_mono (fun r h11 hr => ?_) K
          obtain ⟨x12, rfl, hS, ty2, ty6, ty10, K⟩ := hr
          show mW _ _ _ _ _ _ [.inl x12] _ _
          refine mw_istore_n (pc' := 99) dX4_readCondition_98 rfl (by decide) ?_
          show mW _ _ _ _ _ [some (.inr (some 27)), some (.inl v1), some (.inl x12), some (.inl (-1)), some (.inl x9), some (.inl v5)] _ _ _
          refine mw_iinc (pc' := 102) (v := v5 + 1) dX4_readCondition_99 rfl (by decide) rfl rfl ?_
          show mW _ _ _ _ _ [some (.inr (some 27)), some (.inl v1), some (.inl x12), some (.inl (-1)), some (.inl x9), some (.inl (v5 + 1))] _ _ _
          refine mw_goto (tgt := 10) dX4_readCondition_102 (by decide) ?_
          exact K
      · replace K := K.2 c17
        refine mw_aload_n (pc' := 52) dX4_readCondition_51 rfl rfl ?_
        refine mw_getR (pc' := 55) dX4_readCondition_52 rfl flX4_15 rfl (skT_27 hS) ?_
        refine mw_bipush (pc' := 57) (v := 12) dX4_readCondition_55 rfl (by decide) ?_
        refine mw_iconst (pc' := 58) (v := 0) dX4_readCondition_57 rfl (by decide) ?_
        obtain ⟨y14, ey14, ty14, K⟩ := K
        rw [ey14]
        refine mw_callV (pc' := 61) (b' := (0, 0)) (b1 := b) (av := [.inl 12, .inl 0]) (rest := []) dX4_readCondition_58 rfl lkX4_82 rfl rfl (Nat.le_of_ble_eq_true rfl) ⟨Nat.le_of_eq (Nat.zero_add _), Nat.le_of_eq (Nat.zero_add _)⟩ (ty14) ?_
        refine mC_mono (fun r h15 hr => ?_) K
        obtain ⟨x16, rfl, hS, ty2, ty14, K⟩ := hr
        show mW _ _ _ _ _ _ [.inl x16] _ _
        refine mw_istore_n (pc' := 62) dX4_readCondition_61 rfl (by decide) ?_
        show mW _ _ _ _ _ [some (.inr (some 27)), some (.inl v1), some (.inl v2), some (.inl x16), some (.inl x5), some (.inl v5)] _ _ _
        refine mw_goto (tgt := 99) dX4_readCondition_62 (by decide) ?_
        refine mw_iinc (pc' := 102) (v := v5 + 1) dX4_readCondition_99 rfl (by decide) rfl rfl ?_
        show mW _ _ _ _ _ [some (.inr (some 27)), some (.inl v1), some (.inl v2), some (.inl x16), some (.inl x5), some (.inl (v5 + 1))] _ _ _
        refine mw_goto (tgt := 10) dX4_readCondition_102 (by decide) ?_
        exact K

set_option maxRecDepth 100000 in
set_option maxHeartbeats 4000000 in
theorem qX4_readPiece {G : mG} {d : Nat} {b : Nat × Nat} {h : mH} {Q : Option mV → mH → Prop} (v1 : Int32) (hS : mSk h)
    (K : mC G kX4_sign (d + 5) (0, 0) [.inr (some 27)] h (fun r h1 => ∃ x2, r = some (.inl x2) ∧ mSk h1 ∧ ((¬ x2 = 33 → mC G kX4_sign (d + 5) (0, 0) [.inr (some 27)] h1 (fun r h3 => ∃ x4, r = some (.inl x4) ∧ mSk h3 ∧ ((¬ x4 = 40 → mC G kX4_readSum (d + 5) (0, 0) [.inr (some 27), .inl v1] h3 (fun r h5 => r = none ∧ mSk h5 ∧ mC G kX4_takesOneOf (d + 5) (0, 0) [.inr (some 27), .inl 60, .inl 62, .inl 61, .inl 7] h5 (fun r h6 => ∃ x7, r = some (.inl x7) ∧ mSk h6 ∧ ((¬ x7 = (-1) → mC G kX4_readSum (d + 5) (0, 0) [.inr (some 27), .inl v1] h6 (fun r h8 => r = none ∧ mSk h8 ∧ ∃ y9, mR h8 27 1 = some y9 ∧ mT h8 y9 = 4 ∧ mC G kX3_add (d + 5) (0, 0) [.inr (some y9), .inl x7, .inl 0] h8 (fun r h10 => ∃ x11, r = some (.inl x11) ∧ mSk h10 ∧ mT h10 y9 = 4 ∧ Q none h10))) ∧ (x7 = (-1) → mC G kX4_stop (d + 5) (0, 0) [.inr (some 27), .inl 1] h6 (fun r h12 => r = none ∧ mSk h12 ∧ mC G kX4_readSum (d + 5) (0, 0) [.inr (some 27), .inl v1] h12 (fun r h13 => r = none ∧ mSk h13 ∧ ∃ y14, mR h13 27 1 = some y14 ∧ mT h13 y14 = 4 ∧ mC G kX3_add (d + 5) (0, 0) [.inr (some y14), .inl x7, .inl 0] h13 (fun r h15 => ∃ x16, r = some (.inl x16) ∧ mSk h15 ∧ mT h15 y14 = 4 ∧ Q none h15)))))))) ∧ (x4 = 40 → mC G kX4_opens (d + 5) (0, 0) [.inr (some 27), .inl v1] h3 (fun r h18 => ∃ x19, r = some (.inl x19) ∧ mSk h18 ∧ ((x19 = 0 → Q none h18) ∧ (¬ x19 = 0 → mC G kX4_readCondition (d + 5) (0, 0) [.inr (some 27), .inl (v1 + 1)] h18 (fun r h20 => r = none ∧ mSk h20 ∧ mC G kX4_expect (d + 5) (0, 0) [.inr (some 27), .inl 41] h20 (fun r h21 => r = none ∧ mSk h21 ∧ Q none h21))))))))) ∧ (x2 = 33 → mC G kX4_opens (d + 5) (0, 0) [.inr (some 27), .inl v1] h1 (fun r h24 => ∃ x25, r = some (.inl x25) ∧ mSk h24 ∧ ((x25 = 0 → Q none h24) ∧ (¬ x25 = 0 → mC G kX4_readPiece (d + 5) (0, 0) [.inr (some 27), .inl (v1 + 1)] h24 (fun r h26 => r = none ∧ mSk h26 ∧ ∃ y27, mR h26 27 1 = some y27 ∧ mT h26 y27 = 4 ∧ mC G kX3_add (d + 5) (0, 0) [.inr (some y27), .inl 10, .inl 0] h26 (fun r h28 => ∃ x29, r = some (.inl x29) ∧ mSk h28 ∧ mT h28 y27 = 4 ∧ Q none h28))))))))) : mC G kX4_readPiece (d + 6) b [.inr (some 27), .inl v1] h Q := by
  refine mC_in rfl (Nat.le_of_ble_eq_true rfl) ?_
  show mW _ _ _ _ _ [some (.inr (some 27)), some (.inl v1), none] _ _ _
  refine mw_aload_n (pc' := 1) dX4_readPiece_0 rfl rfl ?_
  refine mw_callV (pc' := 4) (b' := (0, 0)) (b1 := b) (av := []) (rest := []) dX4_readPiece_1 rfl lkX4_62 rfl rfl (Nat.le_of_ble_eq_true rfl) ⟨Nat.le_of_eq (Nat.zero_add _), Nat.le_of_eq (Nat.zero_add _)⟩ (skT_27 hS) ?_
  refine mC_mono (fun r h1 hr => ?_) K
  obtain ⟨x2, rfl, hS, K⟩ := hr
  show mW _ _ _ _ _ _ [.inl x2] _ _
  refine mw_bipush (pc' := 6) (v := 33) dX4_readPiece_4 rfl (by decide) ?_
  refine mw_icmp_ne (pc' := 9) (tgt := 38) dX4_readPiece_6 rfl (by decide) (fun c31 => ?_) (fun c31 => ?_)
  · replace K := K.1 c31
    refine mw_aload_n (pc' := 39) dX4_readPiece_38 rfl rfl ?_
    refine mw_callV (pc' := 42) (b' := (0, 0)) (b1 := b) (av := []) (rest := []) dX4_readPiece_39 rfl lkX4_62 rfl rfl (Nat.le_of_ble_eq_true rfl) ⟨Nat.le_of_eq (Nat.zero_add _), Nat.le_of_eq (Nat.zero_add _)⟩ (skT_27 hS) ?_
    refine mC_mono (fun r h3 hr => ?_) K
    obtain ⟨x4, rfl, hS, K⟩ := hr
    show mW _ _ _ _ _ _ [.inl x4] _ _
    refine mw_bipush (pc' := 44) (v := 40) dX4_readPiece_42 rfl (by decide) ?_
    refine mw_icmp_ne (pc' := 47) (tgt := 71) dX4_readPiece_44 rfl (by decide) (fun c23 => ?_) (fun c23 => ?_)
    · replace K := K.1 c23
      refine mw_aload_n (pc' := 72) dX4_readPiece_71 rfl rfl ?_
      refine mw_iload_n (pc' := 73) dX4_readPiece_72 rfl rfl ?_
      refine mw_callV (pc' := 76) (b' := (0, 0)) (b1 := b) (av := [.inl v1]) (rest := []) dX4_readPiece_73 rfl lkX4_49 rfl rfl (Nat.le_of_ble_eq_true rfl) ⟨Nat.le_of_eq (Nat.zero_add _), Nat.le_of_eq (Nat.zero_add _)⟩ (skT_27 hS) ?_
      refine mC_mono (fun r h5 hr => ?_) K
      obtain ⟨rfl, hS, K⟩ := hr
      show mW _ _ _ _ _ _ [] _ _
      refine mw_aload_n (pc' := 77) dX4_readPiece_76 rfl rfl ?_
      refine mw_bipush (pc' := 79) (v := 60) dX4_readPiece_77 rfl (by decide) ?_
      refine mw_bipush (pc' := 81) (v := 62) dX4_readPiece_79 rfl (by decide) ?_
      refine mw_bipush (pc' := 83) (v := 61) dX4_readPiece_81 rfl (by decide) ?_
      refine mw_bipush (pc' := 85) (v := 7) dX4_readPiece_83 rfl (by decide) ?_
      refine mw_callV (pc' := 88) (b' := (0, 0)) (b1 := b) (av := [.inl 60, .inl 62, .inl 61, .inl 7]) (rest := []) dX4_readPiece_85 rfl lkX4_89 rfl rfl (Nat.le_of_ble_eq_true rfl) ⟨Nat.le_of_eq (Nat.zero_add _), Nat.le_of_eq (Nat.zero_add _)⟩ (skT_27 hS) ?_
      refine mC_mono (fun r h6 hr => ?_) K
      obtain ⟨x7, rfl, hS, K⟩ := hr
      show mW _ _ _ _ _ _ [.inl x7] _ _
      refine mw_istore_n (pc' := 89) dX4_readPiece_88 rfl (by decide) ?_
      show mW _ _ _ _ _ [some (.inr (some 27)), some (.inl v1), some (.inl x7)] _ _ _
      refine mw_iload_n (pc' := 90) dX4_readPiece_89 rfl rfl ?_
      refine mw_iconst (pc' := 91) (v := (-1)) dX4_readPiece_90 rfl (by decide) ?_
      refine mw_icmp_ne (pc' := 94) (tgt := 99) dX4_readPiece_91 rfl (by decide) (fun c17 => ?_) (fun c17 => ?_)
      · replace K := K.1 c17
        refine mw_aload_n (pc' := 100) dX4_readPiece_99 rfl rfl ?_
        refine mw_iload_n (pc' := 101) dX4_readPiece_100 rfl rfl ?_
        refine mw_callV (pc' := 104) (b' := (0, 0)) (b1 := b) (av := [.inl v1]) (rest := []) dX4_readPiece_101 rfl lkX4_49 rfl rfl (Nat.le_of_ble_eq_true rfl) ⟨Nat.le_of_eq (Nat.zero_add _), Nat.le_of_eq (Nat.zero_add _)⟩ (skT_27 hS) ?_
        refine mC_mono (fun r h8 hr => ?_) K
        obtain ⟨rfl, hS, K⟩ := hr
        show mW _ _ _ _ _ _ [] _ _
        refine mw_aload_n (pc' := 105) dX4_readPiece_104 rfl rfl ?_
        refine mw_getR (pc' := 108) dX4_readPiece_105 rfl flX4_15 rfl (skT_27 hS) ?_
        refine mw_iload_n (pc' := 109) dX4_readPiece_108 rfl rfl ?_
        refine mw_iconst (pc' := 110) (v := 0) dX4_readPiece_109 rfl (by decide) ?_
        obtain ⟨y9, ey9, ty9, K⟩ := K
        rw [ey9]
        refine mw_callV (pc' := 113) (b' := (0, 0)) (b1 := b) (av := [.inl x7, .inl 0]) (rest := []) dX4_readPiece_110 rfl lkX4_82 rfl rfl (Nat.le_of_ble_eq_true rfl) ⟨Nat.le_of_eq (Nat.zero_add _), Nat.le_of_eq (Nat.zero_add _)⟩ (ty9) ?_
        refine mC_mono (fun r h10 hr => ?_) K
        obtain ⟨x11, rfl, hS, ty9, K⟩ := hr
        show mW _ _ _ _ _ _ [.inl x11] _ _
        refine mw_pop (pc' := 114) dX4_readPiece_113 rfl ?_
        exact mw_ret dX4_readPiece_114 rfl K
      · replace K := K.2 c17
        refine mw_aload_n (pc' := 95) dX4_readPiece_94 rfl rfl ?_
        refine mw_iconst (pc' := 96) (v := 1) dX4_readPiece_95 rfl (by decide) ?_
        refine mw_callV (pc' := 99) (b' := (0, 0)) (b1 := b) (av := [.inl 1]) (rest := []) dX4_readPiece_96 rfl lkX4_66 rfl rfl (Nat.le_of_ble_eq_true rfl) ⟨Nat.le_of_eq (Nat.zero_add _), Nat.le_of_eq (Nat.zero_add _)⟩ (skT_27 hS) ?_
        refine mC_mono (fun r h12 hr => ?_) K
        obtain ⟨rfl, hS, K⟩ := hr
        show mW _ _ _ _ _ _ [] _ _
        refine mw_aload_n (pc' := 100) dX4_readPiece_99 rfl rfl ?_
        refine mw_iload_n (pc' := 101) dX4_readPiece_100 rfl rfl ?_
        refine mw_callV (pc' := 104) (b' := (0, 0)) (b1 := b) (av := [.inl v1]) (rest := []) dX4_readPiece_101 rfl lkX4_49 rfl rfl (Nat.le_of_ble_eq_true rfl) ⟨Nat.le_of_eq (Nat.zero_add _), Nat.le_of_eq (Nat.zero_add _)⟩ (skT_27 hS) ?_
        refine mC_mono (fun r h13 hr => ?_) K
        obtain ⟨rfl, hS, K⟩ := hr
        show mW _ _ _ _ _ _ [] _ _
        refine mw_aload_n (pc' := 105) dX4_readPiece_104 rfl rfl ?_
        refine mw_getR (pc' := 108) dX4_readPiece_105 rfl flX4_15 rfl (skT_27 hS) ?_
        refine mw_iload_n (pc' := 109) dX4_readPiece_108 rfl rfl ?_
        refine mw_iconst (pc' := 110) (v := 0) dX4_readPiece_109 rfl (by decide) ?_
        obtain ⟨y14, ey14, ty14, K⟩ := K
        rw [ey14]
        refine mw_callV (pc' := 113) (b' := (0, 0)) (b1 := b) (av := [.inl x7, .inl 0]) (rest := []) dX4_readPiece_110 rfl lkX4_82 rfl rfl (Nat.le_of_ble_eq_true rfl) ⟨Nat.le_of_eq (Nat.zero_add _), Nat.le_of_eq (Nat.zero_add _)⟩ (ty14) ?_
        refine mC_mono (fun r h15 hr => ?_) K
        obtain ⟨x16, rfl, hS, ty14, K⟩ := hr
        show mW _ _ _ _ _ _ [.inl x16] _ _
        refine mw_pop (pc' := 114) dX4_readPiece_113 rfl ?_
        exact mw_ret dX4_readPiece_114 rfl K
    · replace K := K.2 c23
      refine mw_aload_n (pc' := 48) dX4_readPiece_47 rfl rfl ?_
      refine mw_iload_n (pc' := 49) dX4_readPiece_48 rfl rfl ?_
      refine mw_callV (pc' := 52) (b' := (0, 0)) (b1 := b) (av := [.inl v1]) (rest := []) dX4_readPiece_49 rfl lkX4_85 rfl rfl (Nat.le_of_ble_eq_true rfl) ⟨Nat.le_of_eq (Nat.zero_add _), Nat.le_of_eq (Nat.zero_add _)⟩ (skT_27 hS) ?_
      refine mC_mono (fun r h18 hr => ?_) K
      obtain ⟨x19, rfl, hS, K⟩ := hr
      show mW _ _ _ _ _ _ [.inl x19] _ _
      refine mw_if_eq (pc' := 55) (tgt := 114) dX4_readPiece_52 rfl (by decide) (fun c22 => ?_) (fun c22 => ?_)
      · replace K := K.1 c22
        exact mw_ret dX4_readPiece_114 rfl K
      · replace K := K.2 c22
        refine mw_aload_n (pc' := 56) dX4_readPiece_55 rfl rfl ?_
        refine mw_iload_n (pc' := 57) dX4_readPiece_56 rfl rfl ?_
        refine mw_iconst (pc' := 58) (v := 1) dX4_readPiece_57 rfl (by decide) ?_
        refine mw_iadd (pc' := 59) dX4_readPiece_58 rfl ?_
        refine mw_callV (pc' := 62) (b' := (0, 0)) (b1 := b) (av := [.inl (v1 + 1)]) (rest := []) dX4_readPiece_59 rfl lkX4_56 rfl rfl (Nat.le_of_ble_eq_true rfl) ⟨Nat.le_of_eq (Nat.zero_add _), Nat.le_of_eq (Nat.zero_add _)⟩ (skT_27 hS) ?_
        refine mC_mono (fun r h20 hr => ?_) K
        obtain ⟨rfl, hS, K⟩ := hr
        show mW _ _ _ _ _ _ [] _ _
        refine mw_aload_n (pc' := 63) dX4_readPiece_62 rfl rfl ?_
        refine mw_bipush (pc' := 65) (v := 41) dX4_readPiece_63 rfl (by decide) ?_
        refine mw_callV (pc' := 68) (b' := (0, 0)) (b1 := b) (av := [.inl 41]) (rest := []) dX4_readPiece_65 rfl lkX4_45 rfl rfl (Nat.le_of_ble_eq_true rfl) ⟨Nat.le_of_eq (Nat.zero_add _), Nat.le_of_eq (Nat.zero_add _)⟩ (skT_27 hS) ?_
        refine mC_mono (fun r h21 hr => ?_) K
        obtain ⟨rfl, hS, K⟩ := hr
        show mW _ _ _ _ _ _ [] _ _
        refine mw_goto (tgt := 114) dX4_readPiece_68 (by decide) ?_
        exact mw_ret dX4_readPiece_114 rfl K
  · replace K := K.2 c31
    refine mw_aload_n (pc' := 10) dX4_readPiece_9 rfl rfl ?_
    refine mw_iload_n (pc' := 11) dX4_readPiece_10 rfl rfl ?_
    refine mw_callV (pc' := 14) (b' := (0, 0)) (b1 := b) (av := [.inl v1]) (rest := []) dX4_readPiece_11 rfl lkX4_85 rfl rfl (Nat.le_of_ble_eq_true rfl) ⟨Nat.le_of_eq (Nat.zero_add _), Nat.le_of_eq (Nat.zero_add _)⟩ (skT_27 hS) ?_
    refine mC_mono (fun r h24 hr => ?_) K
    obtain ⟨x25, rfl, hS, K⟩ := hr
    show mW _ _ _ _ _ _ [.inl x25] _ _
    refine mw_if_eq (pc' := 17) (tgt := 114) dX4_readPiece_14 rfl (by decide) (fun c30 => ?_) (fun c30 => ?_)
    · replace K := K.1 c30
      exact mw_ret dX4_readPiece_114 rfl K
    · replace K := K.2 c30
      refine mw_aload_n (pc' := 18) dX4_readPiece_17 rfl rfl ?_
      refine mw_iload_n (pc' := 19) dX4_readPiece_18 rfl rfl ?_
      refine mw_iconst (pc' := 20) (v := 1) dX4_readPiece_19 rfl (by decide) ?_
      refine mw_iadd (pc' := 21) dX4_readPiece_20 rfl ?_
      refine mw_callV (pc' := 24) (b' := (0, 0)) (b1 := b) (av := [.inl (v1 + 1)]) (rest := []) dX4_readPiece_21 rfl lkX4_72 rfl rfl (Nat.le_of_ble_eq_true rfl) ⟨Nat.le_of_eq (Nat.zero_add _), Nat.le_of_eq (Nat.zero_add _)⟩ (skT_27 hS) ?_
      refine mC_mono (fun r h26 hr => ?_) K
      obtain ⟨rfl, hS, K⟩ := hr
      show mW _ _ _ _ _ _ [] _ _
      refine mw_aload_n (pc' := 25) dX4_readPiece_24 rfl rfl ?_
      refine mw_getR (pc' := 28) dX4_readPiece_25 rfl flX4_15 rfl (skT_27 hS) ?_
      refine mw_bipush (pc' := 30) (v := 10) dX4_readPiece_28 rfl (by decide) ?_
      refine mw_iconst (pc' := 31) (v := 0) dX4_readPiece_30 rfl (by decide) ?_
      obtain ⟨y27, ey27, ty27, K⟩ := K
      rw [ey27]
      refine mw_callV (pc' := 34) (b' := (0, 0)) (b1 := b) (av := [.inl 10, .inl 0]) (rest := []) dX4_readPiece_31 rfl lkX4_82 rfl rfl (Nat.le_of_ble_eq_true rfl) ⟨Nat.le_of_eq (Nat.zero_add _), Nat.le_of_eq (Nat.zero_add _)⟩ (ty27) ?_
      refine mC_mono (fun r h28 hr => ?_) K
      obtain ⟨x29, rfl, hS, ty27, K⟩ := hr
      show mW _ _ _ _ _ _ [.inl x29] _ _
      refine mw_pop (pc' := 35) dX4_readPiece_34 rfl ?_
      refine mw_goto (tgt := 114) dX4_readPiece_35 (by decide) ?_
      exact mw_ret dX4_readPiece_114 rfl K

set_option maxRecDepth 100000 in
set_option maxHeartbeats 4000000 in
theorem qX4_readSum {G : mG} {d : Nat} {b : Nat × Nat} {h : mH} {Q : Option mV → mH → Prop} (v1 : Int32) (hS : mSk h)
    (K : mW G kX4_readSum (d + 6) b 7 [some (.inr (some 27)), some (.inl v1), some (.inl (-1)), some (.inl 1), some (.inl 0), none, none] [] h Q) : mC G kX4_readSum (d + 6) b [.inr (some 27), .inl v1] h Q := by
  refine mC_in rfl (Nat.le_of_ble_eq_true rfl) ?_
  show mW _ _ _ _ _ [some (.inr (some 27)), some (.inl v1), none, none, none, none, none] _ _ _
  refine mw_iconst (pc' := 1) (v := (-1)) dX4_readSum_0 rfl (by decide) ?_
  refine mw_istore_n (pc' := 2) dX4_readSum_1 rfl (by decide) ?_
  show mW _ _ _ _ _ [some (.inr (some 27)), some (.inl v1), some (.inl (-1)), none, none, none, none] _ _ _
  refine mw_iconst (pc' := 3) (v := 1) dX4_readSum_2 rfl (by decide) ?_
  refine mw_istore_n (pc' := 4) dX4_readSum_3 rfl (by decide) ?_
  show mW _ _ _ _ _ [some (.inr (some 27)), some (.inl v1), some (.inl (-1)), some (.inl 1), none, none, none] _ _ _
  refine mw_iconst (pc' := 5) (v := 0) dX4_readSum_4 rfl (by decide) ?_
  refine mw_istore (pc' := 7) dX4_readSum_5 rfl (by decide) ?_
  show mW _ _ _ _ _ [some (.inr (some 27)), some (.inl v1), some (.inl (-1)), some (.inl 1), some (.inl 0), none, none] _ _ _
  exact K

set_option maxRecDepth 100000 in
set_option maxHeartbeats 4000000 in
theorem qX4_readSum_7 {G : mG} {d : Nat} {b : Nat × Nat} {h : mH} {Q : Option mV → mH → Prop} (v1 : Int32) (v2 : Int32) (v3 : Int32) (v4 : Int32) (hS : mSk h)
    (K : ((v3 = 0 → Q none h) ∧ (¬ v3 = 0 → ((160 ≤ v4 → Q none h) ∧ (¬ (160 ≤ v4) → mC G kX4_readFactor (d + 5) (0, 0) [.inr (some 27), .inl v1] h (fun r h1 => r = none ∧ mSk h1 ∧ mC G kX4_takesOneOf (d + 5) (0, 0) [.inr (some 27), .inl 42, .inl 47, .inl 37, .inl 4] h1 (fun r h2 => ∃ x3, r = some (.inl x3) ∧ mSk h2 ∧ mW G kX4_readSum (d + 6) b 40 [some (.inr (some 27)), some (.inl v1), some (.inl v2), none, some (.inl v4), some (.inl x3), some (.inl 0)] [] h2 Q))))))) : mW G kX4_readSum (d + 6) b 7 [some (.inr (some 27)), some (.inl v1), some (.inl v2), some (.inl v3), some (.inl v4), none, none] [] h Q := by
  refine mw_iload_n (pc' := 8) dX4_readSum_7 rfl rfl ?_
  refine mw_if_eq (pc' := 11) (tgt := 133) dX4_readSum_8 rfl (by decide) (fun c5 => ?_) (fun c5 => ?_)
  · replace K := K.1 c5
    exact mw_ret dX4_readSum_133 rfl K
  · replace K := K.2 c5
    refine mw_iload (pc' := 13) dX4_readSum_11 rfl rfl ?_
    refine mw_sipush (pc' := 16) (v := 160) dX4_readSum_13 rfl (by decide) ?_
    refine mw_icmp_ge (pc' := 19) (tgt := 133) dX4_readSum_16 rfl (by decide) (fun c4 => ?_) (fun c4 => ?_)
    · replace K := K.1 c4
      exact mw_ret dX4_readSum_133 rfl K
    · replace K := K.2 c4
      refine mw_aload_n (pc' := 20) dX4_readSum_19 rfl rfl ?_
      refine mw_iload_n (pc' := 21) dX4_readSum_20 rfl rfl ?_
      refine mw_callV (pc' := 24) (b' := (0, 0)) (b1 := b) (av := [.inl v1]) (rest := []) dX4_readSum_21 rfl lkX4_93 rfl rfl (Nat.le_of_ble_eq_true rfl) ⟨Nat.le_of_eq (Nat.zero_add _), Nat.le_of_eq (Nat.zero_add _)⟩ (skT_27 hS) ?_
      refine mC_mono (fun r h1 hr => ?_) K
      obtain ⟨rfl, hS, K⟩ := hr
      show mW _ _ _ _ _ _ [] _ _
      refine mw_aload_n (pc' := 25) dX4_readSum_24 rfl rfl ?_
      refine mw_bipush (pc' := 27) (v := 42) dX4_readSum_25 rfl (by decide) ?_
      refine mw_bipush (pc' := 29) (v := 47) dX4_readSum_27 rfl (by decide) ?_
      refine mw_bipush (pc' := 31) (v := 37) dX4_readSum_29 rfl (by decide) ?_
      refine mw_iconst (pc' := 32) (v := 4) dX4_readSum_31 rfl (by decide) ?_
      refine mw_callV (pc' := 35) (b' := (0, 0)) (b1 := b) (av := [.inl 42, .inl 47, .inl 37, .inl 4]) (rest := []) dX4_readSum_32 rfl lkX4_89 rfl rfl (Nat.le_of_ble_eq_true rfl) ⟨Nat.le_of_eq (Nat.zero_add _), Nat.le_of_eq (Nat.zero_add _)⟩ (skT_27 hS) ?_
      refine mC_mono (fun r h2 hr => ?_) K
      obtain ⟨x3, rfl, hS, K⟩ := hr
      show mW _ _ _ _ _ _ [.inl x3] _ _
      refine mw_istore (pc' := 37) dX4_readSum_35 rfl (by decide) ?_
      show mW _ _ _ _ _ [some (.inr (some 27)), some (.inl v1), some (.inl v2), some (.inl v3), some (.inl v4), some (.inl x3), none] _ _ _
      refine mw_iconst (pc' := 38) (v := 0) dX4_readSum_37 rfl (by decide) ?_
      refine mw_istore (pc' := 40) dX4_readSum_38 rfl (by decide) ?_
      show mW _ _ _ _ _ [some (.inr (some 27)), some (.inl v1), some (.inl v2), some (.inl v3), some (.inl v4), some (.inl x3), some (.inl 0)] _ _ _
      refine mw_weak (ls' := [some (.inr (some 27)), some (.inl v1), some (.inl v2), none, some (.inl v4), some (.inl x3), some (.inl 0)]) ?_ ?_
      · intro i v hv; match i, hv with
        | 0, hv => exact hv
        | 1, hv => exact hv
        | 2, hv => exact hv
        | 3, hv => cases hv
        | 4, hv => exact hv
        | 5, hv => exact hv
        | 6, hv => exact hv
        | n + 7, hv => cases hv
      exact K

set_option maxRecDepth 100000 in
set_option maxHeartbeats 4000000 in
theorem qX4_readSum_40 {G : mG} {d : Nat} {b : Nat × Nat} {h : mH} {Q : Option mV → mH → Prop} (v1 : Int32) (v2 : Int32) (v4 : Int32) (v5 : Int32) (v6 : Int32) (hS : mSk h)
    (K : ((v5 = (-1) → ((v2 = (-1) → mC G kX4_takesOneOf (d + 5) (0, 0) [.inr (some 27), .inl 43, .inl 45, .inl 45, .inl 2] h (fun r h1 => ∃ x2, r = some (.inl x2) ∧ mSk h1 ∧ ∀ w3 : Int32, w3 = (if x2 = (-1) then 0 else 1) → mW G kX4_readSum (d + 6) b 7 [some (.inr (some 27)), some (.inl v1), some (.inl x2), some (.inl w3), some (.inl (v4 + 1)), none, none] [] h1 Q)) ∧ (¬ v2 = (-1) → ∃ y6, mR h 27 1 = some y6 ∧ mT h y6 = 4 ∧ mC G kX3_add (d + 5) (0, 0) [.inr (some y6), .inl v2, .inl 0] h (fun r h7 => ∃ x8, r = some (.inl x8) ∧ mSk h7 ∧ mT h7 y6 = 4 ∧ mC G kX4_takesOneOf (d + 5) (0, 0) [.inr (some 27), .inl 43, .inl 45, .inl 45, .inl 2] h7 (fun r h9 => ∃ x10, r = some (.inl x10) ∧ mSk h9 ∧ mT h9 y6 = 4 ∧ ∀ w11 : Int32, w11 = (if x10 = (-1) then 0 else 1) → mW G kX4_readSum (d + 6) b 7 [some (.inr (some 27)), some (.inl v1), some (.inl x10), some (.inl w11), some (.inl (v4 + 1)), none, none] [] h9 Q))))) ∧ (¬ v5 = (-1) → ((160 ≤ v6 → ((v2 = (-1) → mC G kX4_takesOneOf (d + 5) (0, 0) [.inr (some 27), .inl 43, .inl 45, .inl 45, .inl 2] h (fun r h15 => ∃ x16, r = some (.inl x16) ∧ mSk h15 ∧ ∀ w17 : Int32, w17 = (if x16 = (-1) then 0 else 1) → mW G kX4_readSum (d + 6) b 7 [some (.inr (some 27)), some (.inl v1), some (.inl x16), some (.inl w17), some (.inl (v4 + 1)), none, none] [] h15 Q)) ∧ (¬ v2 = (-1) → ∃ y20, mR h 27 1 = some y20 ∧ mT h y20 = 4 ∧ mC G kX3_add (d + 5) (0, 0) [.inr (some y20), .inl v2, .inl 0] h (fun r h21 => ∃ x22, r = some (.inl x22) ∧ mSk h21 ∧ mT h21 y20 = 4 ∧ mC G kX4_takesOneOf (d + 5) (0, 0) [.inr (some 27), .inl 43, .inl 45, .inl 45, .inl 2] h21 (fun r h23 => ∃ x24, r = some (.inl x24) ∧ mSk h23 ∧ mT h23 y20 = 4 ∧ ∀ w25 : Int32, w25 = (if x24 = (-1) then 0 else 1) → mW G kX4_readSum (d + 6) b 7 [some (.inr (some 27)), some (.inl v1), some (.inl x24), some (.inl w25), some (.inl (v4 + 1)), none, none] [] h23 Q))))) ∧ (¬ (160 ≤ v6) → mC G kX4_readFactor (d + 5) (0, 0) [.inr (some 27), .inl v1] h (fun r h29 => r = none ∧ mSk h29 ∧ ∃ y30, mR h29 27 1 = some y30 ∧ mT h29 y30 = 4 ∧ mC G kX3_add (d + 5) (0, 0) [.inr (some y30), .inl v5, .inl 0] h29 (fun r h31 => ∃ x32, r = some (.inl x32) ∧ mSk h31 ∧ mT h31 y30 = 4 ∧ mC G kX4_takesOneOf (d + 5) (0, 0) [.inr (some 27), .inl 42, .inl 47, .inl 37, .inl 4] h31 (fun r h33 => ∃ x34, r = some (.inl x34) ∧ mSk h33 ∧ mT h33 y30 = 4 ∧ mW G kX4_readSum (d + 6) b 40 [some (.inr (some 27)), some (.inl v1), some (.inl v2), none, some (.inl v4), some (.inl x34), some (.inl (v6 + 1))] [] h33 Q)))))))) : mW G kX4_readSum (d + 6) b 40 [some (.inr (some 27)), some (.inl v1), some (.inl v2), none, some (.inl v4), some (.inl v5), some (.inl v6)] [] h Q := by
  refine mw_iload (pc' := 42) dX4_readSum_40 rfl rfl ?_
  refine mw_iconst (pc' := 43) (v := (-1)) dX4_readSum_42 rfl (by decide) ?_
  refine mw_icmp_eq (pc' := 46) (tgt := 89) dX4_readSum_43 rfl (by decide) (fun c36 => ?_) (fun c36 => ?_)
  · replace K := K.1 c36
    refine mw_iload_n (pc' := 90) dX4_readSum_89 rfl rfl ?_
    refine mw_iconst (pc' := 91) (v := (-1)) dX4_readSum_90 rfl (by decide) ?_
    refine mw_icmp_eq (pc' := 94) (tgt := 104) dX4_readSum_91 rfl (by decide) (fun c14 => ?_) (fun c14 => ?_)
    · replace K := K.1 c14
      refine mw_aload_n (pc' := 105) dX4_readSum_104 rfl rfl ?_
      refine mw_bipush (pc' := 107) (v := 43) dX4_readSum_105 rfl (by decide) ?_
      refine mw_bipush (pc' := 109) (v := 45) dX4_readSum_107 rfl (by decide) ?_
      refine mw_bipush (pc' := 111) (v := 45) dX4_readSum_109 rfl (by decide) ?_
      refine mw_iconst (pc' := 112) (v := 2) dX4_readSum_111 rfl (by decide) ?_
      refine mw_callV (pc' := 115) (b' := (0, 0)) (b1 := b) (av := [.inl 43, .inl 45, .inl 45, .inl 2]) (rest := []) dX4_readSum_112 rfl lkX4_89 rfl rfl (Nat.le_of_ble_eq_true rfl) ⟨Nat.le_of_eq (Nat.zero_add _), Nat.le_of_eq (Nat.zero_add _)⟩ (skT_27 hS) ?_
      refine mC_mono (fun r h1 hr => ?_) K
      obtain ⟨x2, rfl, hS, K⟩ := hr
      show mW _ _ _ _ _ _ [.inl x2] _ _
      refine mw_istore_n (pc' := 116) dX4_readSum_115 rfl (by decide) ?_
      show mW _ _ _ _ _ [some (.inr (some 27)), some (.inl v1), some (.inl x2), none, some (.inl v4), some (.inl v5), some (.inl v6)] _ _ _
      refine mw_iload_n (pc' := 117) dX4_readSum_116 rfl rfl ?_
      refine mw_iconst (pc' := 118) (v := (-1)) dX4_readSum_117 rfl (by decide) ?_
      have J4 : ∀ w3 : Int32, w3 = (if x2 = (-1) then 0 else 1) → mW G kX4_readSum (d + 6) b 126 [some (.inr (some 27)), some (.inl v1), some (.inl x2), none, some (.inl v4), some (.inl v5), some (.inl v6)] ([.inl w3]) h1 Q := by
        intro w3 ew3
        replace K := K w3 ew3
        refine mw_istore_n (pc' := 127) dX4_readSum_126 rfl (by decide) ?_
        show mW _ _ _ _ _ [some (.inr (some 27)), some (.inl v1), some (.inl x2), some (.inl w3), some (.inl v4), some (.inl v5), some (.inl v6)] _ _ _
        refine mw_iinc (pc' := 130) (v := v4 + 1) dX4_readSum_127 rfl (by decide) rfl rfl ?_
        show mW _ _ _ _ _ [some (.inr (some 27)), some (.inl v1), some (.inl x2), some (.inl w3), some (.inl (v4 + 1)), some (.inl v5), some (.inl v6)] _ _ _
        refine mw_goto (tgt := 7) dX4_readSum_130 (by decide) ?_
        refine mw_weak (ls' := [some (.inr (some 27)), some (.inl v1), some (.inl x2), some (.inl w3), some (.inl (v4 + 1)), none, none]) ?_ ?_
        · intro i v hv; match i, hv with
          | 0, hv => exact hv
          | 1, hv => exact hv
          | 2, hv => exact hv
          | 3, hv => exact hv
          | 4, hv => exact hv
          | 5, hv => cases hv
          | 6, hv => cases hv
          | n + 7, hv => cases hv
        exact K
      refine mw_icmp_eq (pc' := 121) (tgt := 125) dX4_readSum_118 rfl (by decide) (fun c5 => ?_) (fun c5 => ?_)
      · refine mw_iconst (pc' := 126) (v := 0) dX4_readSum_125 rfl (by decide) ?_
        exact J4 _ (by rw [if_pos c5])
      · refine mw_iconst (pc' := 122) (v := 1) dX4_readSum_121 rfl (by decide) ?_
        refine mw_goto (tgt := 126) dX4_readSum_122 (by decide) ?_
        exact J4 _ (by rw [if_neg c5])
    · replace K := K.2 c14
      refine mw_aload_n (pc' := 95) dX4_readSum_94 rfl rfl ?_
      refine mw_getR (pc' := 98) dX4_readSum_95 rfl flX4_15 rfl (skT_27 hS) ?_
      refine mw_iload_n (pc' := 99) dX4_readSum_98 rfl rfl ?_
      refine mw_iconst (pc' := 100) (v := 0) dX4_readSum_99 rfl (by decide) ?_
      obtain ⟨y6, ey6, ty6, K⟩ := K
      rw [ey6]
      refine mw_callV (pc' := 103) (b' := (0, 0)) (b1 := b) (av := [.inl v2, .inl 0]) (rest := []) dX4_readSum_100 rfl lkX4_82 rfl rfl (Nat.le_of_ble_eq_true rfl) ⟨Nat.le_of_eq (Nat.zero_add _), Nat.le_of_eq (Nat.zero_add _)⟩ (ty6) ?_
      refine mC_mono (fun r h7 hr => ?_) K
      obtain ⟨x8, rfl, hS, ty6, K⟩ := hr
      show mW _ _ _ _ _ _ [.inl x8] _ _
      refine mw_pop (pc' := 104) dX4_readSum_103 rfl ?_
      refine mw_aload_n (pc' := 105) dX4_readSum_104 rfl rfl ?_
      refine mw_bipush (pc' := 107) (v := 43) dX4_readSum_105 rfl (by decide) ?_
      refine mw_bipush (pc' := 109) (v := 45) dX4_readSum_107 rfl (by decide) ?_
      refine mw_bipush (pc' := 111) (v := 45) dX4_readSum_109 rfl (by decide) ?_
      refine mw_iconst (pc' := 112) (v := 2) dX4_readSum_111 rfl (by decide) ?_
      refine mw_callV (pc' := 115) (b' := (0, 0)) (b1 := b) (av := [.inl 43, .inl 45, .inl 45, .inl 2]) (rest := []) dX4_readSum_112 rfl lkX4_89 rfl rfl (Nat.le_of_ble_eq_true rfl) ⟨Nat.le_of_eq (Nat.zero_add _), Nat.le_of_eq (Nat.zero_add _)⟩ (skT_27 hS) ?_
      refine mC_mono (fun r h9 hr => ?_) K
      obtain ⟨x10, rfl, hS, ty6, K⟩ := hr
      show mW _ _ _ _ _ _ [.inl x10] _ _
      refine mw_istore_n (pc' := 116) dX4_readSum_115 rfl (by decide) ?_
      show mW _ _ _ _ _ [some (.inr (some 27)), some (.inl v1), some (.inl x10), none, some (.inl v4), some (.inl v5), some (.inl v6)] _ _ _
      refine mw_iload_n (pc' := 117) dX4_readSum_116 rfl rfl ?_
      refine mw_iconst (pc' := 118) (v := (-1)) dX4_readSum_117 rfl (by decide) ?_
      have J12 : ∀ w11 : Int32, w11 = (if x10 = (-1) then 0 else 1) → mW G kX4_readSum (d + 6) b 126 [some (.inr (some 27)), some (.inl v1), some (.inl x10), none, some (.inl v4), some (.inl v5), some (.inl v6)] ([.inl w11]) h9 Q := by
        intro w11 ew11
        replace K := K w11 ew11
        refine mw_istore_n (pc' := 127) dX4_readSum_126 rfl (by decide) ?_
        show mW _ _ _ _ _ [some (.inr (some 27)), some (.inl v1), some (.inl x10), some (.inl w11), some (.inl v4), some (.inl v5), some (.inl v6)] _ _ _
        refine mw_iinc (pc' := 130) (v := v4 + 1) dX4_readSum_127 rfl (by decide) rfl rfl ?_
        show mW _ _ _ _ _ [some (.inr (some 27)), some (.inl v1), some (.inl x10), some (.inl w11), some (.inl (v4 + 1)), some (.inl v5), some (.inl v6)] _ _ _
        refine mw_goto (tgt := 7) dX4_readSum_130 (by decide) ?_
        refine mw_weak (ls' := [some (.inr (some 27)), some (.inl v1), some (.inl x10), some (.inl w11), some (.inl (v4 + 1)), none, none]) ?_ ?_
        · intro i v hv; match i, hv with
          | 0, hv => exact hv
          | 1, hv => exact hv
          | 2, hv => exact hv
          | 3, hv => exact hv
          | 4, hv => exact hv
          | 5, hv => cases hv
          | 6, hv => cases hv
          | n + 7, hv => cases hv
        exact K
      refine mw_icmp_eq (pc' := 121) (tgt := 125) dX4_readSum_118 rfl (by decide) (fun c13 => ?_) (fun c13 => ?_)
      · refine mw_iconst (pc' := 126) (v := 0) dX4_readSum_125 rfl (by decide) ?_
        exact J12 _ (by rw [if_pos c13])
      · refine mw_iconst (pc' := 122) (v := 1) dX4_readSum_121 rfl (by decide) ?_
        refine mw_goto (tgt := 126) dX4_readSum_122 (by decide) ?_
        exact J12 _ (by rw [if_neg c13])
  · replace K := K.2 c36
    refine mw_iload (pc' := 48) dX4_readSum_46 rfl rfl ?_
    refine mw_sipush (pc' := 51) (v := 160) dX4_readSum_48 rfl (by decide) ?_
    refine mw_icmp_ge (pc' := 54) (tgt := 89) dX4_readSum_51 rfl (by decide) (fun c35 => ?_) (fun c35 => ?_)
    · replace K := K.1 c35
      refine mw_iload_n (pc' := 90) dX4_readSum_89 rfl rfl ?_
      refine mw_iconst (pc' := 91) (v := (-1)) dX4_readSum_90 rfl (by decide) ?_
      refine mw_icmp_eq (pc' := 94) (tgt := 104) dX4_readSum_91 rfl (by decide) (fun c28 => ?_) (fun c28 => ?_)
      · replace K := K.1 c28
        refine mw_aload_n (pc' := 105) dX4_readSum_104 rfl rfl ?_
        refine mw_bipush (pc' := 107) (v := 43) dX4_readSum_105 rfl (by decide) ?_
        refine mw_bipush (pc' := 109) (v := 45) dX4_readSum_107 rfl (by decide) ?_
        refine mw_bipush (pc' := 111) (v := 45) dX4_readSum_109 rfl (by decide) ?_
        refine mw_iconst (pc' := 112) (v := 2) dX4_readSum_111 rfl (by decide) ?_
        refine mw_callV (pc' := 115) (b' := (0, 0)) (b1 := b) (av := [.inl 43, .inl 45, .inl 45, .inl 2]) (rest := []) dX4_readSum_112 rfl lkX4_89 rfl rfl (Nat.le_of_ble_eq_true rfl) ⟨Nat.le_of_eq (Nat.zero_add _), Nat.le_of_eq (Nat.zero_add _)⟩ (skT_27 hS) ?_
        refine mC_mono (fun r h15 hr => ?_) K
        obtain ⟨x16, rfl, hS, K⟩ := hr
        show mW _ _ _ _ _ _ [.inl x16] _ _
        refine mw_istore_n (pc' := 116) dX4_readSum_115 rfl (by decide) ?_
        show mW _ _ _ _ _ [some (.inr (some 27)), some (.inl v1), some (.inl x16), none, some (.inl v4), some (.inl v5), some (.inl v6)] _ _ _
        refine mw_iload_n (pc' := 117) dX4_readSum_116 rfl rfl ?_
        refine mw_iconst (pc' := 118) (v := (-1)) dX4_readSum_117 rfl (by decide) ?_
        have J18 : ∀ w17 : Int32, w17 = (if x16 = (-1) then 0 else 1) → mW G kX4_readSum (d + 6) b 126 [some (.inr (some 27)), some (.inl v1), some (.inl x16), none, some (.inl v4), some (.inl v5), some (.inl v6)] ([.inl w17]) h15 Q := by
          intro w17 ew17
          replace K := K w17 ew17
          refine mw_istore_n (pc' := 127) dX4_readSum_126 rfl (by decide) ?_
          show mW _ _ _ _ _ [some (.inr (some 27)), some (.inl v1), some (.inl x16), some (.inl w17), some (.inl v4), some (.inl v5), some (.inl v6)] _ _ _
          refine mw_iinc (pc' := 130) (v := v4 + 1) dX4_readSum_127 rfl (by decide) rfl rfl ?_
          show mW _ _ _ _ _ [some (.inr (some 27)), some (.inl v1), some (.inl x16), some (.inl w17), some (.inl (v4 + 1)), some (.inl v5), some (.inl v6)] _ _ _
          refine mw_goto (tgt := 7) dX4_readSum_130 (by decide) ?_
          refine mw_weak (ls' := [some (.inr (some 27)), some (.inl v1), some (.inl x16), some (.inl w17), some (.inl (v4 + 1)), none, none]) ?_ ?_
          · intro i v hv; match i, hv with
            | 0, hv => exact hv
            | 1, hv => exact hv
            | 2, hv => exact hv
            | 3, hv => exact hv
            | 4, hv => exact hv
            | 5, hv => cases hv
            | 6, hv => cases hv
            | n + 7, hv => cases hv
          exact K
        refine mw_icmp_eq (pc' := 121) (tgt := 125) dX4_readSum_118 rfl (by decide) (fun c19 => ?_) (fun c19 => ?_)
        · refine mw_iconst (pc' := 126) (v := 0) dX4_readSum_125 rfl (by decide) ?_
          exact J18 _ (by rw [if_pos c19])
        · refine mw_iconst (pc' := 122) (v := 1) dX4_readSum_121 rfl (by decide) ?_
          refine mw_goto (tgt := 126) dX4_readSum_122 (by decide) ?_
          exact J18 _ (by rw [if_neg c19])
      · replace K := K.2 c28
        refine mw_aload_n (pc' := 95) dX4_readSum_94 rfl rfl ?_
        refine mw_getR (pc' := 98) dX4_readSum_95 rfl flX4_15 rfl (skT_27 hS) ?_
        refine mw_iload_n (pc' := 99) dX4_readSum_98 rfl rfl ?_
        refine mw_iconst (pc' := 100) (v := 0) dX4_readSum_99 rfl (by decide) ?_
        obtain ⟨y20, ey20, ty20, K⟩ := K
        rw [ey20]
        refine mw_callV (pc' := 103) (b' := (0, 0)) (b1 := b) (av := [.inl v2, .inl 0]) (rest := []) dX4_readSum_100 rfl lkX4_82 rfl rfl (Nat.le_of_ble_eq_true rfl) ⟨Nat.le_of_eq (Nat.zero_add _), Nat.le_of_eq (Nat.zero_add _)⟩ (ty20) ?_
        refine mC_mono (fun r h21 hr => ?_) K
        obtain ⟨x22, rfl, hS, ty20, K⟩ := hr
        show mW _ _ _ _ _ _ [.inl x22] _ _
        refine mw_pop (pc' := 104) dX4_readSum_103 rfl ?_
        refine mw_aload_n (pc' := 105) dX4_readSum_104 rfl rfl ?_
        refine mw_bipush (pc' := 107) (v := 43) dX4_readSum_105 rfl (by decide) ?_
        refine mw_bipush (pc' := 109) (v := 45) dX4_readSum_107 rfl (by decide) ?_
        refine mw_bipush (pc' := 111) (v := 45) dX4_readSum_109 rfl (by decide) ?_
        refine mw_iconst (pc' := 112) (v := 2) dX4_readSum_111 rfl (by decide) ?_
        refine mw_callV (pc' := 115) (b' := (0, 0)) (b1 := b) (av := [.inl 43, .inl 45, .inl 45, .inl 2]) (rest := []) dX4_readSum_112 rfl lkX4_89 rfl rfl (Nat.le_of_ble_eq_true rfl) ⟨Nat.le_of_eq (Nat.zero_add _), Nat.le_of_eq (Nat.zero_add _)⟩ (skT_27 hS) ?_
        refine mC_mono (fun r h23 hr => ?_) K
        obtain ⟨x24, rfl, hS, ty20, K⟩ := hr
        show mW _ _ _ _ _ _ [.inl x24] _ _
        refine mw_istore_n (pc' := 116) dX4_readSum_115 rfl (by decide) ?_
        show mW _ _ _ _ _ [some (.inr (some 27)), some (.inl v1), some (.inl x24), none, some (.inl v4), some (.inl v5), some (.inl v6)] _ _ _
        refine mw_iload_n (pc' := 117) dX4_readSum_116 rfl rfl ?_
        refine mw_iconst (pc' := 118) (v := (-1)) dX4_readSum_117 rfl (by decide) ?_
        have J26 : ∀ w25 : Int32, w25 = (if x24 = (-1) then 0 else 1) → mW G kX4_readSum (d + 6) b 126 [some (.inr (some 27)), some (.inl v1), some (.inl x24), none, some (.inl v4), some (.inl v5), some (.inl v6)] ([.inl w25]) h23 Q := by
          intro w25 ew25
          replace K := K w25 ew25
          refine mw_istore_n (pc' := 127) dX4_readSum_126 rfl (by decide) ?_
          show mW _ _ _ _ _ [some (.inr (some 27)), some (.inl v1), some (.inl x24), some (.inl w25), some (.inl v4), some (.inl v5), some (.inl v6)] _ _ _
          refine mw_iinc (pc' := 130) (v := v4 + 1) dX4_readSum_127 rfl (by decide) rfl rfl ?_
          show mW _ _ _ _ _ [some (.inr (some 27)), some (.inl v1), some (.inl x24), some (.inl w25), some (.inl (v4 + 1)), some (.inl v5), some (.inl v6)] _ _ _
          refine mw_goto (tgt := 7) dX4_readSum_130 (by decide) ?_
          refine mw_weak (ls' := [some (.inr (some 27)), some (.inl v1), some (.inl x24), some (.inl w25), some (.inl (v4 + 1)), none, none]) ?_ ?_
          · intro i v hv; match i, hv with
            | 0, hv => exact hv
            | 1, hv => exact hv
            | 2, hv => exact hv
            | 3, hv => exact hv
            | 4, hv => exact hv
            | 5, hv => cases hv
            | 6, hv => cases hv
            | n + 7, hv => cases hv
          exact K
        refine mw_icmp_eq (pc' := 121) (tgt := 125) dX4_readSum_118 rfl (by decide) (fun c27 => ?_) (fun c27 => ?_)
        · refine mw_iconst (pc' := 126) (v := 0) dX4_readSum_125 rfl (by decide) ?_
          exact J26 _ (by rw [if_pos c27])
        · refine mw_iconst (pc' := 122) (v := 1) dX4_readSum_121 rfl (by decide) ?_
          refine mw_goto (tgt := 126) dX4_readSum_122 (by decide) ?_
          exact J26 _ (by rw [if_neg c27])
    · replace K := K.2 c35
      refine mw_aload_n (pc' := 55) dX4_readSum_54 rfl rfl ?_
      refine mw_iload_n (pc' := 56) dX4_readSum_55 rfl rfl ?_
      refine mw_callV (pc' := 59) (b' := (0, 0)) (b1 := b) (av := [.inl v1]) (rest := []) dX4_readSum_56 rfl lkX4_93 rfl rfl (Nat.le_of_ble_eq_true rfl) ⟨Nat.le_of_eq (Nat.zero_add _), Nat.le_of_eq (Nat.zero_add _)⟩ (skT_27 hS) ?_
      refine mC_mono (fun r h29 hr => ?_) K
      obtain ⟨rfl, hS, K⟩ := hr
      show mW _ _ _ _ _ _ [] _ _
      refine mw_aload_n (pc' := 60) dX4_readSum_59 rfl rfl ?_
      refine mw_getR (pc' := 63) dX4_readSum_60 rfl flX4_15 rfl (skT_27 hS) ?_
      refine mw_iload (pc' := 65) dX4_readSum_63 rfl rfl ?_
      refine mw_iconst (pc' := 66) (v := 0) dX4_readSum_65 rfl (by decide) ?_
      obtain ⟨y30, ey30, ty30, K⟩ := K
      rw [ey30]
      refine mw_callV (pc' := 69) (b' := (0, 0)) (b1 := b) (av := [.inl v5, .inl 0]) (rest := []) dX4_readSum_66 rfl lkX4_82 rfl rfl (Nat.le_of_ble_eq_true rfl) ⟨Nat.le_of_eq (Nat.zero_add _), Nat.le_of_eq (Nat.zero_add _)⟩ (ty30) ?_
      refine mC_mono (fun r h31 hr => ?_) K
      obtain ⟨x32, rfl, hS, ty30, K⟩ := hr
      show mW _ _ _ _ _ _ [.inl x32] _ _
      refine mw_pop (pc' := 70) dX4_readSum_69 rfl ?_
      refine mw_aload_n (pc' := 71) dX4_readSum_70 rfl rfl ?_
      refine mw_bipush (pc' := 73) (v := 42) dX4_readSum_71 rfl (by decide) ?_
      refine mw_bipush (pc' := 75) (v := 47) dX4_readSum_73 rfl (by decide) ?_
      refine mw_bipush (pc' := 77) (v := 37) dX4_readSum_75 rfl (by decide) ?_
      refine mw_iconst (pc' := 78) (v := 4) dX4_readSum_77 rfl (by decide) ?_
      refine mw_callV (pc' := 81) (b' := (0, 0)) (b1 := b) (av := [.inl 42, .inl 47, .inl 37, .inl 4]) (rest := []) dX4_readSum_78 rfl lkX4_89 rfl rfl (Nat.le_of_ble_eq_true rfl) ⟨Nat.le_of_eq (Nat.zero_add _), Nat.le_of_eq (Nat.zero_add _)⟩ (skT_27 hS) ?_
      refine mC_mono (fun r h33 hr => ?_) K
      obtain ⟨x34, rfl, hS, ty30, K⟩ := hr
      show mW _ _ _ _ _ _ [.inl x34] _ _
      refine mw_istore (pc' := 83) dX4_readSum_81 rfl (by decide) ?_
      show mW _ _ _ _ _ [some (.inr (some 27)), some (.inl v1), some (.inl v2), none, some (.inl v4), some (.inl x34), some (.inl v6)] _ _ _
      refine mw_iinc (pc' := 86) (v := v6 + 1) dX4_readSum_83 rfl (by decide) rfl rfl ?_
      show mW _ _ _ _ _ [some (.inr (some 27)), some (.inl v1), some (.inl v2), none, some (.inl v4), some (.inl x34), some (.inl (v6 + 1))] _ _ _
      refine mw_goto (tgt := 40) dX4_readSum_86 (by decide) ?_
      exact K

set_option maxRecDepth 100000 in
set_option maxHeartbeats 4000000 in
theorem qX4_readFactor {G : mG} {d : Nat} {b : Nat × Nat} {h : mH} {Q : Option mV → mH → Prop} (v1 : Int32) (hS : mSk h)
    (K : mC G kX4_sign (d + 5) (0, 0) [.inr (some 27)] h (fun r h1 => ∃ x2, r = some (.inl x2) ∧ mSk h1 ∧ ((¬ x2 = (-1) → ((¬ x2 = 91 → (((f_letters ((x2.toUInt32 % 65536).toInt32)) < 0 → (((f_X11_within x2 48 57) = 0 → mC G kX4_stop (d + 5) (0, 0) [.inr (some 27), .inl 1] h1 (fun r h3 => r = none ∧ mSk h3 ∧ Q none h3)) ∧ (¬ (f_X11_within x2 48 57) = 0 → mC G kX4_readNumber (d + 5) (0, 0) [.inr (some 27)] h1 (fun r h4 => r = none ∧ mSk h4 ∧ Q none h4)))) ∧ (¬ ((f_letters ((x2.toUInt32 % 65536).toInt32)) < 0) → ∀ h6, h6 = mSI h1 27 3 ((mI h1 27 3) + 1) → ∃ y7, mR h6 27 1 = some y7 ∧ mT h6 y7 = 4 ∧ mC G kX3_add (d + 5) (0, 0) [.inr (some y7), .inl 1, .inl (f_letters ((x2.toUInt32 % 65536).toInt32))] h6 (fun r h8 => ∃ x9, r = some (.inl x9) ∧ mSk h8 ∧ mT h8 y7 = 4 ∧ Q none h8)))) ∧ (x2 = 91 → mC G kX4_opens (d + 5) (0, 0) [.inr (some 27), .inl v1] h1 (fun r h11 => ∃ x12, r = some (.inl x12) ∧ mSk h11 ∧ ((x12 = 0 → Q none h11) ∧ (¬ x12 = 0 → mC G kX4_readSum (d + 5) (0, 0) [.inr (some 27), .inl (v1 + 1)] h11 (fun r h13 => r = none ∧ mSk h13 ∧ mC G kX4_expect (d + 5) (0, 0) [.inr (some 27), .inl 93] h13 (fun r h14 => r = none ∧ mSk h14 ∧ Q none h14)))))))) ∧ (x2 = (-1) → ((¬ x2 = 91 → ((((-1) : Int32) < 0 → (((f_X11_within x2 48 57) = 0 → mC G kX4_stop (d + 5) (0, 0) [.inr (some 27), .inl 1] h1 (fun r h17 => r = none ∧ mSk h17 ∧ Q none h17)) ∧ (¬ (f_X11_within x2 48 57) = 0 → mC G kX4_readNumber (d + 5) (0, 0) [.inr (some 27)] h1 (fun r h18 => r = none ∧ mSk h18 ∧ Q none h18)))) ∧ (¬ (((-1) : Int32) < 0) → ∀ h20, h20 = mSI h1 27 3 ((mI h1 27 3) + 1) → ∃ y21, mR h20 27 1 = some y21 ∧ mT h20 y21 = 4 ∧ mC G kX3_add (d + 5) (0, 0) [.inr (some y21), .inl 1, .inl (-1)] h20 (fun r h22 => ∃ x23, r = some (.inl x23) ∧ mSk h22 ∧ mT h22 y21 = 4 ∧ Q none h22)))) ∧ (x2 = 91 → mC G kX4_opens (d + 5) (0, 0) [.inr (some 27), .inl v1] h1 (fun r h25 => ∃ x26, r = some (.inl x26) ∧ mSk h25 ∧ ((x26 = 0 → Q none h25) ∧ (¬ x26 = 0 → mC G kX4_readSum (d + 5) (0, 0) [.inr (some 27), .inl (v1 + 1)] h25 (fun r h27 => r = none ∧ mSk h27 ∧ mC G kX4_expect (d + 5) (0, 0) [.inr (some 27), .inl 93] h27 (fun r h28 => r = none ∧ mSk h28 ∧ Q none h28))))))))))) : mC G kX4_readFactor (d + 6) b [.inr (some 27), .inl v1] h Q := by
  refine mC_in rfl (Nat.le_of_ble_eq_true rfl) ?_
  show mW _ _ _ _ _ [some (.inr (some 27)), some (.inl v1), none, none] _ _ _
  refine mw_aload_n (pc' := 1) dX4_readFactor_0 rfl rfl ?_
  refine mw_callV (pc' := 4) (b' := (0, 0)) (b1 := b) (av := []) (rest := []) dX4_readFactor_1 rfl lkX4_62 rfl rfl (Nat.le_of_ble_eq_true rfl) ⟨Nat.le_of_eq (Nat.zero_add _), Nat.le_of_eq (Nat.zero_add _)⟩ (skT_27 hS) ?_
  refine mC_mono (fun r h1 hr => ?_) K
  obtain ⟨x2, rfl, hS, K⟩ := hr
  show mW _ _ _ _ _ _ [.inl x2] _ _
  refine mw_istore_n (pc' := 5) dX4_readFactor_4 rfl (by decide) ?_
  show mW _ _ _ _ _ [some (.inr (some 27)), some (.inl v1), some (.inl x2), none] _ _ _
  refine mw_iload_n (pc' := 6) dX4_readFactor_5 rfl rfl ?_
  refine mw_iconst (pc' := 7) (v := (-1)) dX4_readFactor_6 rfl (by decide) ?_
  refine mw_icmp_ne (pc' := 10) (tgt := 14) dX4_readFactor_7 rfl (by decide) (fun c31 => ?_) (fun c31 => ?_)
  · replace K := K.1 c31
    refine mw_ldcStr (pc' := 16) rfl dX4_readFactor_14 rfl ?_
    refine mw_iload_n (pc' := 17) dX4_readFactor_16 rfl rfl ?_
    refine mw_i2c (pc' := 18) dX4_readFactor_17 rfl ?_
    refine mw_callStr (pc' := 21) (b' := (0, 0)) (b1 := b) (av := [.inl ((x2.toUInt32 % 65536).toInt32)]) (rest := []) dX4_readFactor_18 rfl mkJ0_indexOf_0f7a4 ls_V0.2.1 ls_V0.2.2 ls_V0.1 rfl rfl (Nat.le_of_ble_eq_true rfl) ⟨Nat.le_of_eq (Nat.zero_add _), Nat.le_of_eq (Nat.zero_add _)⟩ ?_
    refine pJ0_indexOf ?_
    refine mw_istore_n (pc' := 22) dX4_readFactor_21 rfl (by decide) ?_
    show mW _ _ _ _ _ [some (.inr (some 27)), some (.inl v1), some (.inl x2), some (.inl (f_letters ((x2.toUInt32 % 65536).toInt32)))] _ _ _
    refine mw_iload_n (pc' := 23) dX4_readFactor_22 rfl rfl ?_
    refine mw_bipush (pc' := 25) (v := 91) dX4_readFactor_23 rfl (by decide) ?_
    refine mw_icmp_ne (pc' := 28) (tgt := 52) dX4_readFactor_25 rfl (by decide) (fun c16 => ?_) (fun c16 => ?_)
    · replace K := K.1 c16
      refine mw_iload_n (pc' := 53) dX4_readFactor_52 rfl rfl ?_
      refine mw_if_lt (pc' := 56) (tgt := 79) dX4_readFactor_53 rfl (by decide) (fun c10 => ?_) (fun c10 => ?_)
      · replace K := K.1 c10
        refine mw_iload_n (pc' := 80) dX4_readFactor_79 rfl rfl ?_
        refine mw_bipush (pc' := 82) (v := 48) dX4_readFactor_80 rfl (by decide) ?_
        refine mw_bipush (pc' := 84) (v := 57) dX4_readFactor_82 rfl (by decide) ?_
        refine mw_callS (pc' := 87) (b' := (0, 0)) (b1 := b) (av := [.inl x2, .inl 48, .inl 57]) (rest := []) dX4_readFactor_84 rfl lkX4_103 rfl rfl (Nat.le_of_ble_eq_true rfl) ⟨Nat.le_of_eq (Nat.zero_add _), Nat.le_of_eq (Nat.zero_add _)⟩ ?_
        refine pX11_within ?_
        refine mw_if_eq (pc' := 90) (tgt := 97) dX4_readFactor_87 rfl (by decide) (fun c5 => ?_) (fun c5 => ?_)
        · replace K := K.1 c5
          refine mw_aload_n (pc' := 98) dX4_readFactor_97 rfl rfl ?_
          refine mw_iconst (pc' := 99) (v := 1) dX4_readFactor_98 rfl (by decide) ?_
          refine mw_callV (pc' := 102) (b' := (0, 0)) (b1 := b) (av := [.inl 1]) (rest := []) dX4_readFactor_99 rfl lkX4_66 rfl rfl (Nat.le_of_ble_eq_true rfl) ⟨Nat.le_of_eq (Nat.zero_add _), Nat.le_of_eq (Nat.zero_add _)⟩ (skT_27 hS) ?_
          refine mC_mono (fun r h3 hr => ?_) K
          obtain ⟨rfl, hS, K⟩ := hr
          show mW _ _ _ _ _ _ [] _ _
          exact mw_ret dX4_readFactor_102 rfl K
        · replace K := K.2 c5
          refine mw_aload_n (pc' := 91) dX4_readFactor_90 rfl rfl ?_
          refine mw_callV (pc' := 94) (b' := (0, 0)) (b1 := b) (av := []) (rest := []) dX4_readFactor_91 rfl lkX4_107 rfl rfl (Nat.le_of_ble_eq_true rfl) ⟨Nat.le_of_eq (Nat.zero_add _), Nat.le_of_eq (Nat.zero_add _)⟩ (skT_27 hS) ?_
          refine mC_mono (fun r h4 hr => ?_) K
          obtain ⟨rfl, hS, K⟩ := hr
          show mW _ _ _ _ _ _ [] _ _
          refine mw_goto (tgt := 102) dX4_readFactor_94 (by decide) ?_
          exact mw_ret dX4_readFactor_102 rfl K
      · replace K := K.2 c10
        refine mw_aload_n (pc' := 57) dX4_readFactor_56 rfl rfl ?_
        refine mw_dup (pc' := 58) dX4_readFactor_57 rfl ?_
        refine mw_getI (pc' := 61) dX4_readFactor_58 rfl flX4_40 rfl (skT_27 hS) ?_
        refine mw_iconst (pc' := 62) (v := 1) dX4_readFactor_61 rfl (by decide) ?_
        refine mw_iadd (pc' := 63) dX4_readFactor_62 rfl ?_
        refine mw_putIK (pc' := 66) dX4_readFactor_63 rfl flX4_40 rfl (Or.inl rfl) ⟨rfl, rfl⟩ (skT_27 hS) hS (fun h6 eh6 hS => ?_)
        replace K := K h6 eh6
        refine mw_aload_n (pc' := 67) dX4_readFactor_66 rfl rfl ?_
        refine mw_getR (pc' := 70) dX4_readFactor_67 rfl flX4_15 rfl (skT_27 hS) ?_
        refine mw_iconst (pc' := 71) (v := 1) dX4_readFactor_70 rfl (by decide) ?_
        refine mw_iload_n (pc' := 72) dX4_readFactor_71 rfl rfl ?_
        obtain ⟨y7, ey7, ty7, K⟩ := K
        rw [ey7]
        refine mw_callV (pc' := 75) (b' := (0, 0)) (b1 := b) (av := [.inl 1, .inl (f_letters ((x2.toUInt32 % 65536).toInt32))]) (rest := []) dX4_readFactor_72 rfl lkX4_82 rfl rfl (Nat.le_of_ble_eq_true rfl) ⟨Nat.le_of_eq (Nat.zero_add _), Nat.le_of_eq (Nat.zero_add _)⟩ (ty7) ?_
        refine mC_mono (fun r h8 hr => ?_) K
        obtain ⟨x9, rfl, hS, ty7, K⟩ := hr
        show mW _ _ _ _ _ _ [.inl x9] _ _
        refine mw_pop (pc' := 76) dX4_readFactor_75 rfl ?_
        refine mw_goto (tgt := 102) dX4_readFactor_76 (by decide) ?_
        exact mw_ret dX4_readFactor_102 rfl K
    · replace K := K.2 c16
      refine mw_aload_n (pc' := 29) dX4_readFactor_28 rfl rfl ?_
      refine mw_iload_n (pc' := 30) dX4_readFactor_29 rfl rfl ?_
      refine mw_callV (pc' := 33) (b' := (0, 0)) (b1 := b) (av := [.inl v1]) (rest := []) dX4_readFactor_30 rfl lkX4_85 rfl rfl (Nat.le_of_ble_eq_true rfl) ⟨Nat.le_of_eq (Nat.zero_add _), Nat.le_of_eq (Nat.zero_add _)⟩ (skT_27 hS) ?_
      refine mC_mono (fun r h11 hr => ?_) K
      obtain ⟨x12, rfl, hS, K⟩ := hr
      show mW _ _ _ _ _ _ [.inl x12] _ _
      refine mw_if_eq (pc' := 36) (tgt := 102) dX4_readFactor_33 rfl (by decide) (fun c15 => ?_) (fun c15 => ?_)
      · replace K := K.1 c15
        exact mw_ret dX4_readFactor_102 rfl K
      · replace K := K.2 c15
        refine mw_aload_n (pc' := 37) dX4_readFactor_36 rfl rfl ?_
        refine mw_iload_n (pc' := 38) dX4_readFactor_37 rfl rfl ?_
        refine mw_iconst (pc' := 39) (v := 1) dX4_readFactor_38 rfl (by decide) ?_
        refine mw_iadd (pc' := 40) dX4_readFactor_39 rfl ?_
        refine mw_callV (pc' := 43) (b' := (0, 0)) (b1 := b) (av := [.inl (v1 + 1)]) (rest := []) dX4_readFactor_40 rfl lkX4_49 rfl rfl (Nat.le_of_ble_eq_true rfl) ⟨Nat.le_of_eq (Nat.zero_add _), Nat.le_of_eq (Nat.zero_add _)⟩ (skT_27 hS) ?_
        refine mC_mono (fun r h13 hr => ?_) K
        obtain ⟨rfl, hS, K⟩ := hr
        show mW _ _ _ _ _ _ [] _ _
        refine mw_aload_n (pc' := 44) dX4_readFactor_43 rfl rfl ?_
        refine mw_bipush (pc' := 46) (v := 93) dX4_readFactor_44 rfl (by decide) ?_
        refine mw_callV (pc' := 49) (b' := (0, 0)) (b1 := b) (av := [.inl 93]) (rest := []) dX4_readFactor_46 rfl lkX4_45 rfl rfl (Nat.le_of_ble_eq_true rfl) ⟨Nat.le_of_eq (Nat.zero_add _), Nat.le_of_eq (Nat.zero_add _)⟩ (skT_27 hS) ?_
        refine mC_mono (fun r h14 hr => ?_) K
        obtain ⟨rfl, hS, K⟩ := hr
        show mW _ _ _ _ _ _ [] _ _
        refine mw_goto (tgt := 102) dX4_readFactor_49 (by decide) ?_
        exact mw_ret dX4_readFactor_102 rfl K
  · replace K := K.2 c31
    refine mw_iconst (pc' := 11) (v := (-1)) dX4_readFactor_10 rfl (by decide) ?_
    refine mw_goto (tgt := 21) dX4_readFactor_11 (by decide) ?_
    refine mw_istore_n (pc' := 22) dX4_readFactor_21 rfl (by decide) ?_
    show mW _ _ _ _ _ [some (.inr (some 27)), some (.inl v1), some (.inl x2), some (.inl (-1))] _ _ _
    refine mw_iload_n (pc' := 23) dX4_readFactor_22 rfl rfl ?_
    refine mw_bipush (pc' := 25) (v := 91) dX4_readFactor_23 rfl (by decide) ?_
    refine mw_icmp_ne (pc' := 28) (tgt := 52) dX4_readFactor_25 rfl (by decide) (fun c30 => ?_) (fun c30 => ?_)
    · replace K := K.1 c30
      refine mw_iload_n (pc' := 53) dX4_readFactor_52 rfl rfl ?_
      refine mw_if_lt (pc' := 56) (tgt := 79) dX4_readFactor_53 rfl (by decide) (fun c24 => ?_) (fun c24 => ?_)
      · replace K := K.1 c24
        refine mw_iload_n (pc' := 80) dX4_readFactor_79 rfl rfl ?_
        refine mw_bipush (pc' := 82) (v := 48) dX4_readFactor_80 rfl (by decide) ?_
        refine mw_bipush (pc' := 84) (v := 57) dX4_readFactor_82 rfl (by decide) ?_
        refine mw_callS (pc' := 87) (b' := (0, 0)) (b1 := b) (av := [.inl x2, .inl 48, .inl 57]) (rest := []) dX4_readFactor_84 rfl lkX4_103 rfl rfl (Nat.le_of_ble_eq_true rfl) ⟨Nat.le_of_eq (Nat.zero_add _), Nat.le_of_eq (Nat.zero_add _)⟩ ?_
        refine pX11_within ?_
        refine mw_if_eq (pc' := 90) (tgt := 97) dX4_readFactor_87 rfl (by decide) (fun c19 => ?_) (fun c19 => ?_)
        · replace K := K.1 c19
          refine mw_aload_n (pc' := 98) dX4_readFactor_97 rfl rfl ?_
          refine mw_iconst (pc' := 99) (v := 1) dX4_readFactor_98 rfl (by decide) ?_
          refine mw_callV (pc' := 102) (b' := (0, 0)) (b1 := b) (av := [.inl 1]) (rest := []) dX4_readFactor_99 rfl lkX4_66 rfl rfl (Nat.le_of_ble_eq_true rfl) ⟨Nat.le_of_eq (Nat.zero_add _), Nat.le_of_eq (Nat.zero_add _)⟩ (skT_27 hS) ?_
          refine mC_mono (fun r h17 hr => ?_) K
          obtain ⟨rfl, hS, K⟩ := hr
          show mW _ _ _ _ _ _ [] _ _
          exact mw_ret dX4_readFactor_102 rfl K
        · replace K := K.2 c19
          refine mw_aload_n (pc' := 91) dX4_readFactor_90 rfl rfl ?_
          refine mw_callV (pc' := 94) (b' := (0, 0)) (b1 := b) (av := []) (rest := []) dX4_readFactor_91 rfl lkX4_107 rfl rfl (Nat.le_of_ble_eq_true rfl) ⟨Nat.le_of_eq (Nat.zero_add _), Nat.le_of_eq (Nat.zero_add _)⟩ (skT_27 hS) ?_
          refine mC_mono (fun r h18 hr => ?_) K
          obtain ⟨rfl, hS, K⟩ := hr
          show mW _ _ _ _ _ _ [] _ _
          refine mw_goto (tgt := 102) dX4_readFactor_94 (by decide) ?_
          exact mw_ret dX4_readFactor_102 rfl K
      · replace K := K.2 c24
        refine mw_aload_n (pc' := 57) dX4_readFactor_56 rfl rfl ?_
        refine mw_dup (pc' := 58) dX4_readFactor_57 rfl ?_
        refine mw_getI (pc' := 61) dX4_readFactor_58 rfl flX4_40 rfl (skT_27 hS) ?_
        refine mw_iconst (pc' := 62) (v := 1) dX4_readFactor_61 rfl (by decide) ?_
        refine mw_iadd (pc' := 63) dX4_readFactor_62 rfl ?_
        refine mw_putIK (pc' := 66) dX4_readFactor_63 rfl flX4_40 rfl (Or.inl rfl) ⟨rfl, rfl⟩ (skT_27 hS) hS (fun h20 eh20 hS => ?_)
        replace K := K h20 eh20
        refine mw_aload_n (pc' := 67) dX4_readFactor_66 rfl rfl ?_
        refine mw_getR (pc' := 70) dX4_readFactor_67 rfl flX4_15 rfl (skT_27 hS) ?_
        refine mw_iconst (pc' := 71) (v := 1) dX4_readFactor_70 rfl (by decide) ?_
        refine mw_iload_n (pc' := 72) dX4_readFactor_71 rfl rfl ?_
        obtain ⟨y21, ey21, ty21, K⟩ := K
        rw [ey21]
        refine mw_callV (pc' := 75) (b' := (0, 0)) (b1 := b) (av := [.inl 1, .inl (-1)]) (rest := []) dX4_readFactor_72 rfl lkX4_82 rfl rfl (Nat.le_of_ble_eq_true rfl) ⟨Nat.le_of_eq (Nat.zero_add _), Nat.le_of_eq (Nat.zero_add _)⟩ (ty21) ?_
        refine mC_mono (fun r h22 hr => ?_) K
        obtain ⟨x23, rfl, hS, ty21, K⟩ := hr
        show mW _ _ _ _ _ _ [.inl x23] _ _
        refine mw_pop (pc' := 76) dX4_readFactor_75 rfl ?_
        refine mw_goto (tgt := 102) dX4_readFactor_76 (by decide) ?_
        exact mw_ret dX4_readFactor_102 rfl K
    · replace K := K.2 c30
      refine mw_aload_n (pc' := 29) dX4_readFactor_28 rfl rfl ?_
      refine mw_iload_n (pc' := 30) dX4_readFactor_29 rfl rfl ?_
      refine mw_callV (pc' := 33) (b' := (0, 0)) (b1 := b) (av := [.inl v1]) (rest := []) dX4_readFactor_30 rfl lkX4_85 rfl rfl (Nat.le_of_ble_eq_true rfl) ⟨Nat.le_of_eq (Nat.zero_add _), Nat.le_of_eq (Nat.zero_add _)⟩ (skT_27 hS) ?_
      refine mC_mono (fun r h25 hr => ?_) K
      obtain ⟨x26, rfl, hS, K⟩ := hr
      show mW _ _ _ _ _ _ [.inl x26] _ _
      refine mw_if_eq (pc' := 36) (tgt := 102) dX4_readFactor_33 rfl (by decide) (fun c29 => ?_) (fun c29 => ?_)
      · replace K := K.1 c29
        exact mw_ret dX4_readFactor_102 rfl K
      · replace K := K.2 c29
        refine mw_aload_n (pc' := 37) dX4_readFactor_36 rfl rfl ?_
        refine mw_iload_n (pc' := 38) dX4_readFactor_37 rfl rfl ?_
        refine mw_iconst (pc' := 39) (v := 1) dX4_readFactor_38 rfl (by decide) ?_
        refine mw_iadd (pc' := 40) dX4_readFactor_39 rfl ?_
        refine mw_callV (pc' := 43) (b' := (0, 0)) (b1 := b) (av := [.inl (v1 + 1)]) (rest := []) dX4_readFactor_40 rfl lkX4_49 rfl rfl (Nat.le_of_ble_eq_true rfl) ⟨Nat.le_of_eq (Nat.zero_add _), Nat.le_of_eq (Nat.zero_add _)⟩ (skT_27 hS) ?_
        refine mC_mono (fun r h27 hr => ?_) K
        obtain ⟨rfl, hS, K⟩ := hr
        show mW _ _ _ _ _ _ [] _ _
        refine mw_aload_n (pc' := 44) dX4_readFactor_43 rfl rfl ?_
        refine mw_bipush (pc' := 46) (v := 93) dX4_readFactor_44 rfl (by decide) ?_
        refine mw_callV (pc' := 49) (b' := (0, 0)) (b1 := b) (av := [.inl 93]) (rest := []) dX4_readFactor_46 rfl lkX4_45 rfl rfl (Nat.le_of_ble_eq_true rfl) ⟨Nat.le_of_eq (Nat.zero_add _), Nat.le_of_eq (Nat.zero_add _)⟩ (skT_27 hS) ?_
        refine mC_mono (fun r h28 hr => ?_) K
        obtain ⟨rfl, hS, K⟩ := hr
        show mW _ _ _ _ _ _ [] _ _
        refine mw_goto (tgt := 102) dX4_readFactor_49 (by decide) ?_
        exact mw_ret dX4_readFactor_102 rfl K

set_option maxRecDepth 100000 in
set_option maxHeartbeats 4000000 in
theorem qX4_readNumber {G : mG} {d : Nat} {b : Nat × Nat} {h : mH} {Q : Option mV → mH → Prop}  (hS : mSk h)
    (K : mW G kX4_readNumber (d + 1) b 4 [some (.inr (some 27)), some (.inl 0), some (.inl 0)] [] h Q) : mC G kX4_readNumber (d + 1) b [.inr (some 27)] h Q := by
  refine mC_in rfl (Nat.le_of_ble_eq_true rfl) ?_
  show mW _ _ _ _ _ [some (.inr (some 27)), none, none] _ _ _
  refine mw_iconst (pc' := 1) (v := 0) dX4_readNumber_0 rfl (by decide) ?_
  refine mw_istore_n (pc' := 2) dX4_readNumber_1 rfl (by decide) ?_
  show mW _ _ _ _ _ [some (.inr (some 27)), some (.inl 0), none] _ _ _
  refine mw_iconst (pc' := 3) (v := 0) dX4_readNumber_2 rfl (by decide) ?_
  refine mw_istore_n (pc' := 4) dX4_readNumber_3 rfl (by decide) ?_
  show mW _ _ _ _ _ [some (.inr (some 27)), some (.inl 0), some (.inl 0)] _ _ _
  exact K

set_option maxRecDepth 100000 in
set_option maxHeartbeats 4000000 in
theorem qX4_readNumber_4 {G : mG} {d : Nat} {b : Nat × Nat} {h : mH} {Q : Option mV → mH → Prop} (v1 : Int32) (v2 : Int32) (hS : mSk h)
    (K : ((5 ≤ v2 → ∃ y1, mR h 27 1 = some y1 ∧ mT h y1 = 4 ∧ mC G kX3_add d (0, 0) [.inr (some y1), .inl 0, .inl v1] h (fun r h2 => ∃ x3, r = some (.inl x3) ∧ mSk h2 ∧ mT h2 y1 = 4 ∧ mC G kX4_sign d (0, 0) [.inr (some 27)] h2 (fun r h4 => ∃ x5, r = some (.inl x5) ∧ mSk h4 ∧ mT h4 y1 = 4 ∧ (((f_X11_within x5 48 57) = 0 → Q none h4) ∧ (¬ (f_X11_within x5 48 57) = 0 → mC G kX4_stop d (0, 0) [.inr (some 27), .inl 2] h4 (fun r h6 => r = none ∧ mSk h6 ∧ mT h6 y1 = 4 ∧ Q none h6)))))) ∧ (¬ (5 ≤ v2) → mC G kX4_sign d (0, 0) [.inr (some 27)] h (fun r h8 => ∃ x9, r = some (.inl x9) ∧ mSk h8 ∧ (((f_X11_within x9 48 57) = 0 → ∃ y10, mR h8 27 1 = some y10 ∧ mT h8 y10 = 4 ∧ mC G kX3_add d (0, 0) [.inr (some y10), .inl 0, .inl v1] h8 (fun r h11 => ∃ x12, r = some (.inl x12) ∧ mSk h11 ∧ mT h11 y10 = 4 ∧ mC G kX4_sign d (0, 0) [.inr (some 27)] h11 (fun r h13 => ∃ x14, r = some (.inl x14) ∧ mSk h13 ∧ mT h13 y10 = 4 ∧ (((f_X11_within x14 48 57) = 0 → Q none h13) ∧ (¬ (f_X11_within x14 48 57) = 0 → mC G kX4_stop d (0, 0) [.inr (some 27), .inl 2] h13 (fun r h15 => r = none ∧ mSk h15 ∧ mT h15 y10 = 4 ∧ Q none h15)))))) ∧ (¬ (f_X11_within x9 48 57) = 0 → mC G kX4_sign d (0, 0) [.inr (some 27)] h8 (fun r h17 => ∃ x18, r = some (.inl x18) ∧ mSk h17 ∧ ∀ h19, h19 = mSI h17 27 3 ((mI h17 27 3) + 1) → mW G kX4_readNumber (d + 1) b 4 [some (.inr (some 27)), some (.inl (((10 * v1) + x18) - 48)), some (.inl (v2 + 1))] [] h19 Q))))))) : mW G kX4_readNumber (d + 1) b 4 [some (.inr (some 27)), some (.inl v1), some (.inl v2)] [] h Q := by
  refine mw_iload_n (pc' := 5) dX4_readNumber_4 rfl rfl ?_
  refine mw_iconst (pc' := 6) (v := 5) dX4_readNumber_5 rfl (by decide) ?_
  refine mw_icmp_ge (pc' := 9) (tgt := 52) dX4_readNumber_6 rfl (by decide) (fun c21 => ?_) (fun c21 => ?_)
  · replace K := K.1 c21
    refine mw_aload_n (pc' := 53) dX4_readNumber_52 rfl rfl ?_
    refine mw_getR (pc' := 56) dX4_readNumber_53 rfl flX4_15 rfl (skT_27 hS) ?_
    refine mw_iconst (pc' := 57) (v := 0) dX4_readNumber_56 rfl (by decide) ?_
    refine mw_iload_n (pc' := 58) dX4_readNumber_57 rfl rfl ?_
    obtain ⟨y1, ey1, ty1, K⟩ := K
    rw [ey1]
    refine mw_callV (pc' := 61) (b' := (0, 0)) (b1 := b) (av := [.inl 0, .inl v1]) (rest := []) dX4_readNumber_58 rfl lkX4_82 rfl rfl (Nat.le_of_ble_eq_true rfl) ⟨Nat.le_of_eq (Nat.zero_add _), Nat.le_of_eq (Nat.zero_add _)⟩ (ty1) ?_
    refine mC_mono (fun r h2 hr => ?_) K
    obtain ⟨x3, rfl, hS, ty1, K⟩ := hr
    show mW _ _ _ _ _ _ [.inl x3] _ _
    refine mw_pop (pc' := 62) dX4_readNumber_61 rfl ?_
    refine mw_aload_n (pc' := 63) dX4_readNumber_62 rfl rfl ?_
    refine mw_callV (pc' := 66) (b' := (0, 0)) (b1 := b) (av := []) (rest := []) dX4_readNumber_63 rfl lkX4_62 rfl rfl (Nat.le_of_ble_eq_true rfl) ⟨Nat.le_of_eq (Nat.zero_add _), Nat.le_of_eq (Nat.zero_add _)⟩ (skT_27 hS) ?_
    refine mC_mono (fun r h4 hr => ?_) K
    obtain ⟨x5, rfl, hS, ty1, K⟩ := hr
    show mW _ _ _ _ _ _ [.inl x5] _ _
    refine mw_bipush (pc' := 68) (v := 48) dX4_readNumber_66 rfl (by decide) ?_
    refine mw_bipush (pc' := 70) (v := 57) dX4_readNumber_68 rfl (by decide) ?_
    refine mw_callS (pc' := 73) (b' := (0, 0)) (b1 := b) (av := [.inl x5, .inl 48, .inl 57]) (rest := []) dX4_readNumber_70 rfl lkX4_103 rfl rfl (Nat.le_of_ble_eq_true rfl) ⟨Nat.le_of_eq (Nat.zero_add _), Nat.le_of_eq (Nat.zero_add _)⟩ ?_
    refine pX11_within ?_
    refine mw_if_eq (pc' := 76) (tgt := 81) dX4_readNumber_73 rfl (by decide) (fun c7 => ?_) (fun c7 => ?_)
    · replace K := K.1 c7
      exact mw_ret dX4_readNumber_81 rfl K
    · replace K := K.2 c7
      refine mw_aload_n (pc' := 77) dX4_readNumber_76 rfl rfl ?_
      refine mw_iconst (pc' := 78) (v := 2) dX4_readNumber_77 rfl (by decide) ?_
      refine mw_callV (pc' := 81) (b' := (0, 0)) (b1 := b) (av := [.inl 2]) (rest := []) dX4_readNumber_78 rfl lkX4_66 rfl rfl (Nat.le_of_ble_eq_true rfl) ⟨Nat.le_of_eq (Nat.zero_add _), Nat.le_of_eq (Nat.zero_add _)⟩ (skT_27 hS) ?_
      refine mC_mono (fun r h6 hr => ?_) K
      obtain ⟨rfl, hS, ty1, K⟩ := hr
      show mW _ _ _ _ _ _ [] _ _
      exact mw_ret dX4_readNumber_81 rfl K
  · replace K := K.2 c21
    refine mw_aload_n (pc' := 10) dX4_readNumber_9 rfl rfl ?_
    refine mw_callV (pc' := 13) (b' := (0, 0)) (b1 := b) (av := []) (rest := []) dX4_readNumber_10 rfl lkX4_62 rfl rfl (Nat.le_of_ble_eq_true rfl) ⟨Nat.le_of_eq (Nat.zero_add _), Nat.le_of_eq (Nat.zero_add _)⟩ (skT_27 hS) ?_
    refine mC_mono (fun r h8 hr => ?_) K
    obtain ⟨x9, rfl, hS, K⟩ := hr
    show mW _ _ _ _ _ _ [.inl x9] _ _
    refine mw_bipush (pc' := 15) (v := 48) dX4_readNumber_13 rfl (by decide) ?_
    refine mw_bipush (pc' := 17) (v := 57) dX4_readNumber_15 rfl (by decide) ?_
    refine mw_callS (pc' := 20) (b' := (0, 0)) (b1 := b) (av := [.inl x9, .inl 48, .inl 57]) (rest := []) dX4_readNumber_17 rfl lkX4_103 rfl rfl (Nat.le_of_ble_eq_true rfl) ⟨Nat.le_of_eq (Nat.zero_add _), Nat.le_of_eq (Nat.zero_add _)⟩ ?_
    refine pX11_within ?_
    refine mw_if_eq (pc' := 23) (tgt := 52) dX4_readNumber_20 rfl (by decide) (fun c20 => ?_) (fun c20 => ?_)
    · replace K := K.1 c20
      refine mw_aload_n (pc' := 53) dX4_readNumber_52 rfl rfl ?_
      refine mw_getR (pc' := 56) dX4_readNumber_53 rfl flX4_15 rfl (skT_27 hS) ?_
      refine mw_iconst (pc' := 57) (v := 0) dX4_readNumber_56 rfl (by decide) ?_
      refine mw_iload_n (pc' := 58) dX4_readNumber_57 rfl rfl ?_
      obtain ⟨y10, ey10, ty10, K⟩ := K
      rw [ey10]
      refine mw_callV (pc' := 61) (b' := (0, 0)) (b1 := b) (av := [.inl 0, .inl v1]) (rest := []) dX4_readNumber_58 rfl lkX4_82 rfl rfl (Nat.le_of_ble_eq_true rfl) ⟨Nat.le_of_eq (Nat.zero_add _), Nat.le_of_eq (Nat.zero_add _)⟩ (ty10) ?_
      refine mC_mono (fun r h11 hr => ?_) K
      obtain ⟨x12, rfl, hS, ty10, K⟩ := hr
      show mW _ _ _ _ _ _ [.inl x12] _ _
      refine mw_pop (pc' := 62) dX4_readNumber_61 rfl ?_
      refine mw_aload_n (pc' := 63) dX4_readNumber_62 rfl rfl ?_
      refine mw_callV (pc' := 66) (b' := (0, 0)) (b1 := b) (av := []) (rest := []) dX4_readNumber_63 rfl lkX4_62 rfl rfl (Nat.le_of_ble_eq_true rfl) ⟨Nat.le_of_eq (Nat.zero_add _), Nat.le_of_eq (Nat.zero_add _)⟩ (skT_27 hS) ?_
      refine mC_mono (fun r h13 hr => ?_) K
      obtain ⟨x14, rfl, hS, ty10, K⟩ := hr
      show mW _ _ _ _ _ _ [.inl x14] _ _
      refine mw_bipush (pc' := 68) (v := 48) dX4_readNumber_66 rfl (by decide) ?_
      refine mw_bipush (pc' := 70) (v := 57) dX4_readNumber_68 rfl (by decide) ?_
      refine mw_callS (pc' := 73) (b' := (0, 0)) (b1 := b) (av := [.inl x14, .inl 48, .inl 57]) (rest := []) dX4_readNumber_70 rfl lkX4_103 rfl rfl (Nat.le_of_ble_eq_true rfl) ⟨Nat.le_of_eq (Nat.zero_add _), Nat.le_of_eq (Nat.zero_add _)⟩ ?_
      refine pX11_within ?_
      refine mw_if_eq (pc' := 76) (tgt := 81) dX4_readNumber_73 rfl (by decide) (fun c16 => ?_) (fun c16 => ?_)
      · replace K := K.1 c16
        exact mw_ret dX4_readNumber_81 rfl K
      · replace K := K.2 c16
        refine mw_aload_n (pc' := 77) dX4_readNumber_76 rfl rfl ?_
        refine mw_iconst (pc' := 78) (v := 2) dX4_readNumber_77 rfl (by decide) ?_
        refine mw_callV (pc' := 81) (b' := (0, 0)) (b1 := b) (av := [.inl 2]) (rest := []) dX4_readNumber_78 rfl lkX4_66 rfl rfl (Nat.le_of_ble_eq_true rfl) ⟨Nat.le_of_eq (Nat.zero_add _), Nat.le_of_eq (Nat.zero_add _)⟩ (skT_27 hS) ?_
        refine mC_mono (fun r h15 hr => ?_) K
        obtain ⟨rfl, hS, ty10, K⟩ := hr
        show mW _ _ _ _ _ _ [] _ _
        exact mw_ret dX4_readNumber_81 rfl K
    · replace K := K.2 c20
      refine mw_bipush (pc' := 25) (v := 10) dX4_readNumber_23 rfl (by decide) ?_
      refine mw_iload_n (pc' := 26) dX4_readNumber_25 rfl rfl ?_
      refine mw_imul (pc' := 27) dX4_readNumber_26 rfl ?_
      refine mw_aload_n (pc' := 28) dX4_readNumber_27 rfl rfl ?_
      refine mw_callV (pc' := 31) (b' := (0, 0)) (b1 := b) (av := []) (rest := [.inl (10 * v1)]) dX4_readNumber_28 rfl lkX4_62 rfl rfl (Nat.le_of_ble_eq_true rfl) ⟨Nat.le_of_eq (Nat.zero_add _), Nat.le_of_eq (Nat.zero_add _)⟩ (skT_27 hS) ?_
      refine mC_mono (fun r h17 hr => ?_) K
      obtain ⟨x18, rfl, hS, K⟩ := hr
      show mW _ _ _ _ _ _ [.inl x18, .inl (10 * v1)] _ _
      refine mw_iadd (pc' := 32) dX4_readNumber_31 rfl ?_
      refine mw_bipush (pc' := 34) (v := 48) dX4_readNumber_32 rfl (by decide) ?_
      refine mw_isub (pc' := 35) dX4_readNumber_34 rfl ?_
      refine mw_istore_n (pc' := 36) dX4_readNumber_35 rfl (by decide) ?_
      show mW _ _ _ _ _ [some (.inr (some 27)), some (.inl (((10 * v1) + x18) - 48)), some (.inl v2)] _ _ _
      refine mw_iinc (pc' := 39) (v := v2 + 1) dX4_readNumber_36 rfl (by decide) rfl rfl ?_
      show mW _ _ _ _ _ [some (.inr (some 27)), some (.inl (((10 * v1) + x18) - 48)), some (.inl (v2 + 1))] _ _ _
      refine mw_aload_n (pc' := 40) dX4_readNumber_39 rfl rfl ?_
      refine mw_dup (pc' := 41) dX4_readNumber_40 rfl ?_
      refine mw_getI (pc' := 44) dX4_readNumber_41 rfl flX4_40 rfl (skT_27 hS) ?_
      refine mw_iconst (pc' := 45) (v := 1) dX4_readNumber_44 rfl (by decide) ?_
      refine mw_iadd (pc' := 46) dX4_readNumber_45 rfl ?_
      refine mw_putIK (pc' := 49) dX4_readNumber_46 rfl flX4_40 rfl (Or.inl rfl) ⟨rfl, rfl⟩ (skT_27 hS) hS (fun h19 eh19 hS => ?_)
      replace K := K h19 eh19
      refine mw_goto (tgt := 4) dX4_readNumber_49 (by decide) ?_
      exact K

set_option maxRecDepth 100000 in
set_option maxHeartbeats 4000000 in
theorem qX4_sign {G : mG} {d : Nat} {b : Nat × Nat} {h : mH} {Q : Option mV → mH → Prop}  (hS : mSk h)
    (K : ((¬ (mI h 27 4) = 0 → Q (some (.inl (-1))) h) ∧ ((mI h 27 4) = 0 → (((mI h 27 3) < 0 → Q (some (.inl (-1))) h) ∧ (¬ ((mI h 27 3) < 0) → (((mI h 27 2) ≤ (mI h 27 3) → Q (some (.inl (-1))) h) ∧ (¬ ((mI h 27 2) ≤ (mI h 27 3)) → vp_in (mI h 27 3) 160 ∧ Q (some (.inl (mI h 93 (mI h 27 3).toNatClampNeg))) h))))))) : mC G kX4_sign d b [.inr (some 27)] h Q := by
  refine mC_in rfl (Nat.le_of_ble_eq_true rfl) ?_
  show mW _ _ _ _ _ [some (.inr (some 27))] _ _ _
  refine mw_aload_n (pc' := 1) dX4_sign_0 rfl rfl ?_
  refine mw_getI (pc' := 4) dX4_sign_1 rfl flX4_42 rfl (skT_27 hS) ?_
  refine mw_if_ne (pc' := 7) (tgt := 37) dX4_sign_4 rfl (by decide) (fun c4 => ?_) (fun c4 => ?_)
  · replace K := K.1 c4
    refine mw_iconst (pc' := 38) (v := (-1)) dX4_sign_37 rfl (by decide) ?_
    exact mw_iret dX4_sign_38 rfl rfl K
  · replace K := K.2 c4
    refine mw_aload_n (pc' := 8) dX4_sign_7 rfl rfl ?_
    refine mw_getI (pc' := 11) dX4_sign_8 rfl flX4_40 rfl (skT_27 hS) ?_
    refine mw_if_lt (pc' := 14) (tgt := 37) dX4_sign_11 rfl (by decide) (fun c3 => ?_) (fun c3 => ?_)
    · replace K := K.1 c3
      refine mw_iconst (pc' := 38) (v := (-1)) dX4_sign_37 rfl (by decide) ?_
      exact mw_iret dX4_sign_38 rfl rfl K
    · replace K := K.2 c3
      refine mw_aload_n (pc' := 15) dX4_sign_14 rfl rfl ?_
      refine mw_getI (pc' := 18) dX4_sign_15 rfl flX4_40 rfl (skT_27 hS) ?_
      refine mw_aload_n (pc' := 19) dX4_sign_18 rfl rfl ?_
      refine mw_getI (pc' := 22) dX4_sign_19 rfl flX4_30 rfl (skT_27 hS) ?_
      refine mw_icmp_ge (pc' := 25) (tgt := 37) dX4_sign_22 rfl (by decide) (fun c2 => ?_) (fun c2 => ?_)
      · replace K := K.1 c2
        refine mw_iconst (pc' := 38) (v := (-1)) dX4_sign_37 rfl (by decide) ?_
        exact mw_iret dX4_sign_38 rfl rfl K
      · replace K := K.2 c2
        refine mw_aload_n (pc' := 26) dX4_sign_25 rfl rfl ?_
        refine mw_getR (pc' := 29) dX4_sign_26 rfl flX4_9 rfl (skT_27 hS) ?_
        rw [skR_27_0 hS]
        refine mw_aload_n (pc' := 30) dX4_sign_29 rfl rfl ?_
        refine mw_getI (pc' := 33) dX4_sign_30 rfl flX4_40 rfl (skT_27 hS) ?_
        obtain ⟨o1, K⟩ := K
        refine mw_ialdL (pc' := 34) dX4_sign_33 rfl (skT_93 hS) (skL_93 hS) o1 ?_
        refine mw_goto (tgt := 38) dX4_sign_34 (by decide) ?_
        exact mw_iret dX4_sign_38 rfl rfl K

set_option maxRecDepth 100000 in
set_option maxHeartbeats 4000000 in
theorem qX4_takes {G : mG} {d : Nat} {b : Nat × Nat} {h : mH} {Q : Option mV → mH → Prop} (v1 : Int32) (hS : mSk h)
    (K : mC G kX4_sign d (0, 0) [.inr (some 27)] h (fun r h1 => ∃ x2, r = some (.inl x2) ∧ mSk h1 ∧ ∀ w3 : Int32, w3 = (if ¬ x2 = v1 then 0 else 1) → ((w3 = 0 → Q (some (.inl w3)) h1) ∧ (¬ w3 = 0 → ∀ h4, h4 = mSI h1 27 3 ((mI h1 27 3) + 1) → Q (some (.inl w3)) h4)))) : mC G kX4_takes (d + 1) b [.inr (some 27), .inl v1] h Q := by
  refine mC_in rfl (Nat.le_of_ble_eq_true rfl) ?_
  show mW _ _ _ _ _ [some (.inr (some 27)), some (.inl v1), none] _ _ _
  refine mw_aload_n (pc' := 1) dX4_takes_0 rfl rfl ?_
  refine mw_callV (pc' := 4) (b' := (0, 0)) (b1 := b) (av := []) (rest := []) dX4_takes_1 rfl lkX4_62 rfl rfl (Nat.le_of_ble_eq_true rfl) ⟨Nat.le_of_eq (Nat.zero_add _), Nat.le_of_eq (Nat.zero_add _)⟩ (skT_27 hS) ?_
  refine mC_mono (fun r h1 hr => ?_) K
  obtain ⟨x2, rfl, hS, K⟩ := hr
  show mW _ _ _ _ _ _ [.inl x2] _ _
  refine mw_iload_n (pc' := 5) dX4_takes_4 rfl rfl ?_
  have J6 : ∀ w3 : Int32, w3 = (if ¬ x2 = v1 then 0 else 1) → mW G kX4_takes (d + 1) b 13 [some (.inr (some 27)), some (.inl v1), none] ([.inl w3]) h1 Q := by
    intro w3 ew3
    replace K := K w3 ew3
    refine mw_istore_n (pc' := 14) dX4_takes_13 rfl (by decide) ?_
    show mW _ _ _ _ _ [some (.inr (some 27)), some (.inl v1), some (.inl w3)] _ _ _
    refine mw_iload_n (pc' := 15) dX4_takes_14 rfl rfl ?_
    refine mw_if_eq (pc' := 18) (tgt := 28) dX4_takes_15 rfl (by decide) (fun c5 => ?_) (fun c5 => ?_)
    · replace K := K.1 c5
      refine mw_iload_n (pc' := 29) dX4_takes_28 rfl rfl ?_
      exact mw_iret dX4_takes_29 rfl (m_boolN (by rw [ew3]; exact (m_boolI m_bool0 m_bool1))) K
    · replace K := K.2 c5
      refine mw_aload_n (pc' := 19) dX4_takes_18 rfl rfl ?_
      refine mw_dup (pc' := 20) dX4_takes_19 rfl ?_
      refine mw_getI (pc' := 23) dX4_takes_20 rfl flX4_40 rfl (skT_27 hS) ?_
      refine mw_iconst (pc' := 24) (v := 1) dX4_takes_23 rfl (by decide) ?_
      refine mw_iadd (pc' := 25) dX4_takes_24 rfl ?_
      refine mw_putIK (pc' := 28) dX4_takes_25 rfl flX4_40 rfl (Or.inl rfl) ⟨rfl, rfl⟩ (skT_27 hS) hS (fun h4 eh4 hS => ?_)
      replace K := K h4 eh4
      refine mw_iload_n (pc' := 29) dX4_takes_28 rfl rfl ?_
      exact mw_iret dX4_takes_29 rfl (m_boolN (by rw [ew3]; exact (m_boolI m_bool0 m_bool1))) K
  refine mw_icmp_ne (pc' := 8) (tgt := 12) dX4_takes_5 rfl (by decide) (fun c7 => ?_) (fun c7 => ?_)
  · refine mw_iconst (pc' := 13) (v := 0) dX4_takes_12 rfl (by decide) ?_
    exact J6 _ (by rw [if_pos c7])
  · refine mw_iconst (pc' := 9) (v := 1) dX4_takes_8 rfl (by decide) ?_
    refine mw_goto (tgt := 13) dX4_takes_9 (by decide) ?_
    exact J6 _ (by rw [if_neg (fun z => z c7)])

set_option maxRecDepth 100000 in
set_option maxHeartbeats 4000000 in
theorem qX4_takesOneOf {G : mG} {d : Nat} {b : Nat × Nat} {h : mH} {Q : Option mV → mH → Prop} (v1 : Int32) (v2 : Int32) (v3 : Int32) (v4 : Int32) (hS : mSk h)
    (K : mC G kX4_takes (d + 1) (0, 0) [.inr (some 27), .inl v1] h (fun r h1 => ∃ x2, r = some (.inl x2) ∧ mSk h1 ∧ ((x2 = 0 → mC G kX4_takes (d + 1) (0, 0) [.inr (some 27), .inl v2] h1 (fun r h3 => ∃ x4, r = some (.inl x4) ∧ mSk h3 ∧ ((x4 = 0 → mC G kX4_takes (d + 1) (0, 0) [.inr (some 27), .inl v3] h3 (fun r h5 => ∃ x6, r = some (.inl x6) ∧ mSk h5 ∧ ∀ w7 : Int32, w7 = (if x6 = 0 then (-1) else (v4 + 2)) → Q (some (.inl w7)) h5)) ∧ (¬ x4 = 0 → Q (some (.inl (v4 + 1))) h3)))) ∧ (¬ x2 = 0 → Q (some (.inl v4)) h1)))) : mC G kX4_takesOneOf (d + 2) b [.inr (some 27), .inl v1, .inl v2, .inl v3, .inl v4] h Q := by
  refine mC_in rfl (Nat.le_of_ble_eq_true rfl) ?_
  show mW _ _ _ _ _ [some (.inr (some 27)), some (.inl v1), some (.inl v2), some (.inl v3), some (.inl v4)] _ _ _
  refine mw_aload_n (pc' := 1) dX4_takesOneOf_0 rfl rfl ?_
  refine mw_iload_n (pc' := 2) dX4_takesOneOf_1 rfl rfl ?_
  refine mw_callV (pc' := 5) (b' := (0, 0)) (b1 := b) (av := [.inl v1]) (rest := []) dX4_takesOneOf_2 rfl lkX4_78 rfl rfl (Nat.le_of_ble_eq_true rfl) ⟨Nat.le_of_eq (Nat.zero_add _), Nat.le_of_eq (Nat.zero_add _)⟩ (skT_27 hS) ?_
  refine mC_mono (fun r h1 hr => ?_) K
  obtain ⟨x2, rfl, hS, K⟩ := hr
  show mW _ _ _ _ _ _ [.inl x2] _ _
  refine mw_if_eq (pc' := 8) (tgt := 11) dX4_takesOneOf_5 rfl (by decide) (fun c11 => ?_) (fun c11 => ?_)
  · replace K := K.1 c11
    refine mw_aload_n (pc' := 12) dX4_takesOneOf_11 rfl rfl ?_
    refine mw_iload_n (pc' := 13) dX4_takesOneOf_12 rfl rfl ?_
    refine mw_callV (pc' := 16) (b' := (0, 0)) (b1 := b) (av := [.inl v2]) (rest := []) dX4_takesOneOf_13 rfl lkX4_78 rfl rfl (Nat.le_of_ble_eq_true rfl) ⟨Nat.le_of_eq (Nat.zero_add _), Nat.le_of_eq (Nat.zero_add _)⟩ (skT_27 hS) ?_
    refine mC_mono (fun r h3 hr => ?_) K
    obtain ⟨x4, rfl, hS, K⟩ := hr
    show mW _ _ _ _ _ _ [.inl x4] _ _
    refine mw_if_eq (pc' := 19) (tgt := 24) dX4_takesOneOf_16 rfl (by decide) (fun c10 => ?_) (fun c10 => ?_)
    · replace K := K.1 c10
      refine mw_aload_n (pc' := 25) dX4_takesOneOf_24 rfl rfl ?_
      refine mw_iload_n (pc' := 26) dX4_takesOneOf_25 rfl rfl ?_
      refine mw_callV (pc' := 29) (b' := (0, 0)) (b1 := b) (av := [.inl v3]) (rest := []) dX4_takesOneOf_26 rfl lkX4_78 rfl rfl (Nat.le_of_ble_eq_true rfl) ⟨Nat.le_of_eq (Nat.zero_add _), Nat.le_of_eq (Nat.zero_add _)⟩ (skT_27 hS) ?_
      refine mC_mono (fun r h5 hr => ?_) K
      obtain ⟨x6, rfl, hS, K⟩ := hr
      show mW _ _ _ _ _ _ [.inl x6] _ _
      have J8 : ∀ w7 : Int32, w7 = (if x6 = 0 then (-1) else (v4 + 2)) → mW G kX4_takesOneOf (d + 2) b 40 [some (.inr (some 27)), some (.inl v1), some (.inl v2), some (.inl v3), some (.inl v4)] ([.inl w7]) h5 Q := by
        intro w7 ew7
        replace K := K w7 ew7
        exact mw_iret dX4_takesOneOf_40 rfl rfl K
      refine mw_if_eq (pc' := 32) (tgt := 39) dX4_takesOneOf_29 rfl (by decide) (fun c9 => ?_) (fun c9 => ?_)
      · refine mw_iconst (pc' := 40) (v := (-1)) dX4_takesOneOf_39 rfl (by decide) ?_
        exact J8 _ (by rw [if_pos c9])
      · refine mw_iload (pc' := 34) dX4_takesOneOf_32 rfl rfl ?_
        refine mw_iconst (pc' := 35) (v := 2) dX4_takesOneOf_34 rfl (by decide) ?_
        refine mw_iadd (pc' := 36) dX4_takesOneOf_35 rfl ?_
        refine mw_goto (tgt := 40) dX4_takesOneOf_36 (by decide) ?_
        exact J8 _ (by rw [if_neg c9])
    · replace K := K.2 c10
      refine mw_iload (pc' := 21) dX4_takesOneOf_19 rfl rfl ?_
      refine mw_iconst (pc' := 22) (v := 1) dX4_takesOneOf_21 rfl (by decide) ?_
      refine mw_iadd (pc' := 23) dX4_takesOneOf_22 rfl ?_
      exact mw_iret dX4_takesOneOf_23 rfl rfl K
  · replace K := K.2 c11
    refine mw_iload (pc' := 10) dX4_takesOneOf_8 rfl rfl ?_
    exact mw_iret dX4_takesOneOf_10 rfl rfl K

set_option maxRecDepth 100000 in
set_option maxHeartbeats 4000000 in
theorem qX4_expect {G : mG} {d : Nat} {b : Nat × Nat} {h : mH} {Q : Option mV → mH → Prop} (v1 : Int32) (hS : mSk h)
    (K : mC G kX4_sign d (0, 0) [.inr (some 27)] h (fun r h1 => ∃ x2, r = some (.inl x2) ∧ mSk h1 ∧ ((¬ x2 = v1 → mC G kX4_stop d (0, 0) [.inr (some 27), .inl 1] h1 (fun r h3 => r = none ∧ mSk h3 ∧ Q none h3)) ∧ (x2 = v1 → ∀ h4, h4 = mSI h1 27 3 ((mI h1 27 3) + 1) → Q none h4)))) : mC G kX4_expect (d + 1) b [.inr (some 27), .inl v1] h Q := by
  refine mC_in rfl (Nat.le_of_ble_eq_true rfl) ?_
  show mW _ _ _ _ _ [some (.inr (some 27)), some (.inl v1)] _ _ _
  refine mw_aload_n (pc' := 1) dX4_expect_0 rfl rfl ?_
  refine mw_callV (pc' := 4) (b' := (0, 0)) (b1 := b) (av := []) (rest := []) dX4_expect_1 rfl lkX4_62 rfl rfl (Nat.le_of_ble_eq_true rfl) ⟨Nat.le_of_eq (Nat.zero_add _), Nat.le_of_eq (Nat.zero_add _)⟩ (skT_27 hS) ?_
  refine mC_mono (fun r h1 hr => ?_) K
  obtain ⟨x2, rfl, hS, K⟩ := hr
  show mW _ _ _ _ _ _ [.inl x2] _ _
  refine mw_iload_n (pc' := 5) dX4_expect_4 rfl rfl ?_
  refine mw_icmp_ne (pc' := 8) (tgt := 21) dX4_expect_5 rfl (by decide) (fun c5 => ?_) (fun c5 => ?_)
  · replace K := K.1 c5
    refine mw_aload_n (pc' := 22) dX4_expect_21 rfl rfl ?_
    refine mw_iconst (pc' := 23) (v := 1) dX4_expect_22 rfl (by decide) ?_
    refine mw_callV (pc' := 26) (b' := (0, 0)) (b1 := b) (av := [.inl 1]) (rest := []) dX4_expect_23 rfl lkX4_66 rfl rfl (Nat.le_of_ble_eq_true rfl) ⟨Nat.le_of_eq (Nat.zero_add _), Nat.le_of_eq (Nat.zero_add _)⟩ (skT_27 hS) ?_
    refine mC_mono (fun r h3 hr => ?_) K
    obtain ⟨rfl, hS, K⟩ := hr
    show mW _ _ _ _ _ _ [] _ _
    exact mw_ret dX4_expect_26 rfl K
  · replace K := K.2 c5
    refine mw_aload_n (pc' := 9) dX4_expect_8 rfl rfl ?_
    refine mw_dup (pc' := 10) dX4_expect_9 rfl ?_
    refine mw_getI (pc' := 13) dX4_expect_10 rfl flX4_40 rfl (skT_27 hS) ?_
    refine mw_iconst (pc' := 14) (v := 1) dX4_expect_13 rfl (by decide) ?_
    refine mw_iadd (pc' := 15) dX4_expect_14 rfl ?_
    refine mw_putIK (pc' := 18) dX4_expect_15 rfl flX4_40 rfl (Or.inl rfl) ⟨rfl, rfl⟩ (skT_27 hS) hS (fun h4 eh4 hS => ?_)
    replace K := K h4 eh4
    refine mw_goto (tgt := 26) dX4_expect_18 (by decide) ?_
    exact mw_ret dX4_expect_26 rfl K

set_option maxRecDepth 100000 in
set_option maxHeartbeats 4000000 in
theorem qX4_opens {G : mG} {d : Nat} {b : Nat × Nat} {h : mH} {Q : Option mV → mH → Prop} (v1 : Int32) (hS : mSk h)
    (K : ((v1 < 6 → ∀ h1, h1 = mSI h 27 3 ((mI h 27 3) + 1) → Q (some (.inl 1)) h1) ∧ (¬ (v1 < 6) → mC G kX4_stop d (0, 0) [.inr (some 27), .inl 5] h (fun r h2 => r = none ∧ mSk h2 ∧ Q (some (.inl 0)) h2)))) : mC G kX4_opens (d + 1) b [.inr (some 27), .inl v1] h Q := by
  refine mC_in rfl (Nat.le_of_ble_eq_true rfl) ?_
  show mW _ _ _ _ _ [some (.inr (some 27)), some (.inl v1)] _ _ _
  refine mw_iload_n (pc' := 1) dX4_opens_0 rfl rfl ?_
  refine mw_bipush (pc' := 3) (v := 6) dX4_opens_1 rfl (by decide) ?_
  refine mw_icmp_lt (pc' := 6) (tgt := 13) dX4_opens_3 rfl (by decide) (fun c3 => ?_) (fun c3 => ?_)
  · replace K := K.1 c3
    refine mw_aload_n (pc' := 14) dX4_opens_13 rfl rfl ?_
    refine mw_dup (pc' := 15) dX4_opens_14 rfl ?_
    refine mw_getI (pc' := 18) dX4_opens_15 rfl flX4_40 rfl (skT_27 hS) ?_
    refine mw_iconst (pc' := 19) (v := 1) dX4_opens_18 rfl (by decide) ?_
    refine mw_iadd (pc' := 20) dX4_opens_19 rfl ?_
    refine mw_putIK (pc' := 23) dX4_opens_20 rfl flX4_40 rfl (Or.inl rfl) ⟨rfl, rfl⟩ (skT_27 hS) hS (fun h1 eh1 hS => ?_)
    replace K := K h1 eh1
    refine mw_iconst (pc' := 24) (v := 1) dX4_opens_23 rfl (by decide) ?_
    exact mw_iret dX4_opens_24 rfl (by decide) K
  · replace K := K.2 c3
    refine mw_aload_n (pc' := 7) dX4_opens_6 rfl rfl ?_
    refine mw_iconst (pc' := 8) (v := 5) dX4_opens_7 rfl (by decide) ?_
    refine mw_callV (pc' := 11) (b' := (0, 0)) (b1 := b) (av := [.inl 5]) (rest := []) dX4_opens_8 rfl lkX4_66 rfl rfl (Nat.le_of_ble_eq_true rfl) ⟨Nat.le_of_eq (Nat.zero_add _), Nat.le_of_eq (Nat.zero_add _)⟩ (skT_27 hS) ?_
    refine mC_mono (fun r h2 hr => ?_) K
    obtain ⟨rfl, hS, K⟩ := hr
    show mW _ _ _ _ _ _ [] _ _
    refine mw_iconst (pc' := 12) (v := 0) dX4_opens_11 rfl (by decide) ?_
    exact mw_iret dX4_opens_12 rfl (by decide) K

set_option maxRecDepth 100000 in
set_option maxHeartbeats 4000000 in
theorem qX4_stop {G : mG} {d : Nat} {b : Nat × Nat} {h : mH} {Q : Option mV → mH → Prop} (v1 : Int32) (hS : mSk h)
    (K : ((¬ (mI h 27 4) = 0 → Q none h) ∧ ((mI h 27 4) = 0 → ∀ h1, h1 = mSI h 27 4 v1 → Q none h1))) : mC G kX4_stop d b [.inr (some 27), .inl v1] h Q := by
  refine mC_in rfl (Nat.le_of_ble_eq_true rfl) ?_
  show mW _ _ _ _ _ [some (.inr (some 27)), some (.inl v1)] _ _ _
  refine mw_aload_n (pc' := 1) dX4_stop_0 rfl rfl ?_
  refine mw_getI (pc' := 4) dX4_stop_1 rfl flX4_42 rfl (skT_27 hS) ?_
  refine mw_if_ne (pc' := 7) (tgt := 12) dX4_stop_4 rfl (by decide) (fun c2 => ?_) (fun c2 => ?_)
  · replace K := K.1 c2
    exact mw_ret dX4_stop_12 rfl K
  · replace K := K.2 c2
    refine mw_aload_n (pc' := 8) dX4_stop_7 rfl rfl ?_
    refine mw_iload_n (pc' := 9) dX4_stop_8 rfl rfl ?_
    refine mw_putIK (pc' := 12) dX4_stop_9 rfl flX4_42 rfl (Or.inl rfl) ⟨rfl, rfl⟩ (skT_27 hS) hS (fun h1 eh1 hS => ?_)
    replace K := K h1 eh1
    exact mw_ret dX4_stop_12 rfl K
