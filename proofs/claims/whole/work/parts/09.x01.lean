set_option maxRecDepth 100000 in
set_option maxHeartbeats 4000000 in
theorem qX1_copyMoved {G : mG} {d : Nat} {b : Nat × Nat} {h : mH} {Q : Option mV → mH → Prop} (a : Nat) (a1 : Nat) (v2 : Int32) (v3 : Int32) (ta : mT h a = 2) (ta1 : mT h a1 = 2) (hS : mSk h)
    (K : ∀ w1 : Int32, w1 = (if (mI h a 1) ≤ (v2 + 1) then 0 else (v2 + 1)) → ∀ w2 : Int32, w2 = (if ¬ (v2 &&& 1) = 0 then 0 else 1) → mW G kX1_copyMoved d b 35 [some (.inr (some a)), some (.inr (some a1)), some (.inl v2), some (.inl v3), some (.inl w1), some (.inl w2), some (.inl 0), none] [] h Q) : mC G kX1_copyMoved d b [.inr (some a), .inr (some a1), .inl v2, .inl v3] h Q := by
  refine mC_in rfl (Nat.le_of_ble_eq_true rfl) ?_
  show mW _ _ _ _ _ [some (.inr (some a)), some (.inr (some a1)), some (.inl v2), some (.inl v3), none, none, none, none] _ _ _
  refine mw_iload_n (pc' := 1) dX1_copyMoved_0 rfl rfl ?_
  refine mw_iconst (pc' := 2) (v := 1) dX1_copyMoved_1 rfl (by decide) ?_
  refine mw_iadd (pc' := 3) dX1_copyMoved_2 rfl ?_
  refine mw_aload_n (pc' := 4) dX1_copyMoved_3 rfl rfl ?_
  refine mw_getI (pc' := 7) dX1_copyMoved_4 rfl flX1_32 rfl (ta) ?_
  have J5 : ∀ w1 : Int32, w1 = (if (mI h a 1) ≤ (v2 + 1) then 0 else (v2 + 1)) → mW G kX1_copyMoved d b 17 [some (.inr (some a)), some (.inr (some a1)), some (.inl v2), some (.inl v3), none, none, none, none] ([.inl w1]) h Q := by
    intro w1 ew1
    replace K := K w1 ew1
    refine mw_istore (pc' := 19) dX1_copyMoved_17 rfl (by decide) ?_
    show mW _ _ _ _ _ [some (.inr (some a)), some (.inr (some a1)), some (.inl v2), some (.inl v3), some (.inl w1), none, none, none] _ _ _
    refine mw_iload_n (pc' := 20) dX1_copyMoved_19 rfl rfl ?_
    refine mw_iconst (pc' := 21) (v := 1) dX1_copyMoved_20 rfl (by decide) ?_
    refine mw_iand (pc' := 22) dX1_copyMoved_21 rfl ?_
    have J3 : ∀ w2 : Int32, w2 = (if ¬ (v2 &&& 1) = 0 then 0 else 1) → mW G kX1_copyMoved d b 30 [some (.inr (some a)), some (.inr (some a1)), some (.inl v2), some (.inl v3), some (.inl w1), none, none, none] ([.inl w2]) h Q := by
      intro w2 ew2
      replace K := K w2 ew2
      refine mw_istore (pc' := 32) dX1_copyMoved_30 rfl (by decide) ?_
      show mW _ _ _ _ _ [some (.inr (some a)), some (.inr (some a1)), some (.inl v2), some (.inl v3), some (.inl w1), some (.inl w2), none, none] _ _ _
      refine mw_iconst (pc' := 33) (v := 0) dX1_copyMoved_32 rfl (by decide) ?_
      refine mw_istore (pc' := 35) dX1_copyMoved_33 rfl (by decide) ?_
      show mW _ _ _ _ _ [some (.inr (some a)), some (.inr (some a1)), some (.inl v2), some (.inl v3), some (.inl w1), some (.inl w2), some (.inl 0), none] _ _ _
      exact K
    refine mw_if_ne (pc' := 25) (tgt := 29) dX1_copyMoved_22 rfl (by decide) (fun c4 => ?_) (fun c4 => ?_)
    · refine mw_iconst (pc' := 30) (v := 0) dX1_copyMoved_29 rfl (by decide) ?_
      exact J3 _ (by rw [if_pos c4])
    · refine mw_iconst (pc' := 26) (v := 1) dX1_copyMoved_25 rfl (by decide) ?_
      refine mw_goto (tgt := 30) dX1_copyMoved_26 (by decide) ?_
      exact J3 _ (by rw [if_neg (fun z => z c4)])
  refine mw_icmp_ge (pc' := 10) (tgt := 16) dX1_copyMoved_7 rfl (by decide) (fun c6 => ?_) (fun c6 => ?_)
  · refine mw_iconst (pc' := 17) (v := 0) dX1_copyMoved_16 rfl (by decide) ?_
    exact J5 _ (by rw [if_pos c6])
  · refine mw_iload_n (pc' := 11) dX1_copyMoved_10 rfl rfl ?_
    refine mw_iconst (pc' := 12) (v := 1) dX1_copyMoved_11 rfl (by decide) ?_
    refine mw_iadd (pc' := 13) dX1_copyMoved_12 rfl ?_
    refine mw_goto (tgt := 17) dX1_copyMoved_13 (by decide) ?_
    exact J5 _ (by rw [if_neg c6])

set_option maxRecDepth 100000 in
set_option maxHeartbeats 4000000 in
theorem qX1_copyMoved_35 {G : mG} {d : Nat} {b : Nat × Nat} {h : mH} {Q : Option mV → mH → Prop} (a0 : Nat) (a1 : Nat) (v2 : Int32) (v3 : Int32) (v4 : Int32) (v5 : Int32) (v6 : Int32) (ta0 : mT h a0 = 2) (ta1 : mT h a1 = 2) (hS : mSk h)
    (K : (((mI h a0 1) ≤ v6 → Q none h) ∧ (¬ ((mI h a0 1) ≤ v6) → ∀ w1 : Int32, w1 = (if v6 = v2 then 1 else (if ¬ v6 = v4 then 0 else 1)) → vp_in v6 16 ∧ ∀ w3 : Int32, w3 = (if w1 = 0 then 0 else (if ¬ v5 = 0 then 0 else v3)) → vp_in v6 16 ∧ ∀ h5, h5 = mSI h (a0 + 6) v6.toNatClampNeg ((mI h (a1 + 6) v6.toNatClampNeg) + w3) → vp_in v6 16 ∧ ∀ w7 : Int32, w7 = (if w1 = 0 then 0 else (if v5 = 0 then 0 else v3)) → vp_in v6 16 ∧ ∀ h9, h9 = mSI h5 (a0 + 7) v6.toNatClampNeg ((mI h5 (a1 + 7) v6.toNatClampNeg) + w7) → vp_in v6 16 ∧ vp_in v6 16 ∧ ∀ h12, h12 = mSI h9 (a0 + 8) v6.toNatClampNeg (mI h9 (a1 + 8) v6.toNatClampNeg) → mW G kX1_copyMoved d b 35 [some (.inr (some a0)), some (.inr (some a1)), some (.inl v2), some (.inl v3), some (.inl v4), some (.inl v5), some (.inl (v6 + 1)), none] [] h12 Q))) : mW G kX1_copyMoved d b 35 [some (.inr (some a0)), some (.inr (some a1)), some (.inl v2), some (.inl v3), some (.inl v4), some (.inl v5), some (.inl v6), none] [] h Q := by
  refine mw_iload (pc' := 37) dX1_copyMoved_35 rfl rfl ?_
  refine mw_aload_n (pc' := 38) dX1_copyMoved_37 rfl rfl ?_
  refine mw_getI (pc' := 41) dX1_copyMoved_38 rfl flX1_32 rfl (ta0) ?_
  refine mw_icmp_ge (pc' := 44) (tgt := 144) dX1_copyMoved_41 rfl (by decide) (fun c22 => ?_) (fun c22 => ?_)
  · replace K := K.1 c22
    exact mw_ret dX1_copyMoved_144 rfl K
  · replace K := K.2 c22
    refine mw_iload (pc' := 46) dX1_copyMoved_44 rfl rfl ?_
    refine mw_iload_n (pc' := 47) dX1_copyMoved_46 rfl rfl ?_
    have J19 : ∀ w1 : Int32, w1 = (if v6 = v2 then 1 else (if ¬ v6 = v4 then 0 else 1)) → mW G kX1_copyMoved d b 62 [some (.inr (some a0)), some (.inr (some a1)), some (.inl v2), some (.inl v3), some (.inl v4), some (.inl v5), some (.inl v6), none] ([.inl w1]) h Q := by
      intro w1 ew1
      replace K := K w1 ew1
      refine mw_istore (pc' := 64) dX1_copyMoved_62 rfl (by decide) ?_
      show mW _ _ _ _ _ [some (.inr (some a0)), some (.inr (some a1)), some (.inl v2), some (.inl v3), some (.inl v4), some (.inl v5), some (.inl v6), some (.inl w1)] _ _ _
      refine mw_aload_n (pc' := 65) dX1_copyMoved_64 rfl rfl ?_
      refine mw_getR (pc' := 68) dX1_copyMoved_65 rfl flX1_35 rfl (ta0) ?_
      rw [skBR_1_2 hS ta0]
      refine mw_iload (pc' := 70) dX1_copyMoved_68 rfl rfl ?_
      refine mw_aload_n (pc' := 71) dX1_copyMoved_70 rfl rfl ?_
      refine mw_getR (pc' := 74) dX1_copyMoved_71 rfl flX1_35 rfl (ta1) ?_
      rw [skBR_1_2 hS ta1]
      refine mw_iload (pc' := 76) dX1_copyMoved_74 rfl rfl ?_
      obtain ⟨o2, K⟩ := K
      refine mw_ialdL (pc' := 77) dX1_copyMoved_76 rfl (skBT_1_6 hS ta1) (skBL_1_6 hS ta1) o2 ?_
      refine mw_iload (pc' := 79) dX1_copyMoved_77 rfl rfl ?_
      have J16 : ∀ w3 : Int32, w3 = (if w1 = 0 then 0 else (if ¬ v5 = 0 then 0 else v3)) → mW G kX1_copyMoved d b 92 [some (.inr (some a0)), some (.inr (some a1)), some (.inl v2), some (.inl v3), some (.inl v4), some (.inl v5), some (.inl v6), some (.inl w1)] ([.inl w3, .inl (mI h (a1 + 6) v6.toNatClampNeg), .inl v6, .inr (some (a0 + 6))]) h Q := by
        intro w3 ew3
        replace K := K w3 ew3
        refine mw_iadd (pc' := 93) dX1_copyMoved_92 rfl ?_
        obtain ⟨o4, K⟩ := K
        refine mw_iastK (pc' := 94) dX1_copyMoved_93 rfl (skBT_1_6 hS ta0) (skBL_1_6 hS ta0) o4 hS (fun h5 eh5 hS => ?_)
        replace K := K h5 eh5
        have ta0 : mT h5 a0 = 2 := by rw [eh5]; exact ta0
        have ta1 : mT h5 a1 = 2 := by rw [eh5]; exact ta1
        refine mw_aload_n (pc' := 95) dX1_copyMoved_94 rfl rfl ?_
        refine mw_getR (pc' := 98) dX1_copyMoved_95 rfl flX1_38 rfl (ta0) ?_
        rw [skBR_1_3 hS ta0]
        refine mw_iload (pc' := 100) dX1_copyMoved_98 rfl rfl ?_
        refine mw_aload_n (pc' := 101) dX1_copyMoved_100 rfl rfl ?_
        refine mw_getR (pc' := 104) dX1_copyMoved_101 rfl flX1_38 rfl (ta1) ?_
        rw [skBR_1_3 hS ta1]
        refine mw_iload (pc' := 106) dX1_copyMoved_104 rfl rfl ?_
        obtain ⟨o6, K⟩ := K
        refine mw_ialdL (pc' := 107) dX1_copyMoved_106 rfl (skBT_1_7 hS ta1) (skBL_1_7 hS ta1) o6 ?_
        refine mw_iload (pc' := 109) dX1_copyMoved_107 rfl rfl ?_
        have J13 : ∀ w7 : Int32, w7 = (if w1 = 0 then 0 else (if v5 = 0 then 0 else v3)) → mW G kX1_copyMoved d b 122 [some (.inr (some a0)), some (.inr (some a1)), some (.inl v2), some (.inl v3), some (.inl v4), some (.inl v5), some (.inl v6), some (.inl w1)] ([.inl w7, .inl (mI h5 (a1 + 7) v6.toNatClampNeg), .inl v6, .inr (some (a0 + 7))]) h5 Q := by
          intro w7 ew7
          replace K := K w7 ew7
          refine mw_iadd (pc' := 123) dX1_copyMoved_122 rfl ?_
          obtain ⟨o8, K⟩ := K
          refine mw_iastK (pc' := 124) dX1_copyMoved_123 rfl (skBT_1_7 hS ta0) (skBL_1_7 hS ta0) o8 hS (fun h9 eh9 hS => ?_)
          replace K := K h9 eh9
          have ta0 : mT h9 a0 = 2 := by rw [eh9]; exact ta0
          have ta1 : mT h9 a1 = 2 := by rw [eh9]; exact ta1
          refine mw_aload_n (pc' := 125) dX1_copyMoved_124 rfl rfl ?_
          refine mw_getR (pc' := 128) dX1_copyMoved_125 rfl flX1_41 rfl (ta0) ?_
          rw [skBR_1_4 hS ta0]
          refine mw_iload (pc' := 130) dX1_copyMoved_128 rfl rfl ?_
          refine mw_aload_n (pc' := 131) dX1_copyMoved_130 rfl rfl ?_
          refine mw_getR (pc' := 134) dX1_copyMoved_131 rfl flX1_41 rfl (ta1) ?_
          rw [skBR_1_4 hS ta1]
          refine mw_iload (pc' := 136) dX1_copyMoved_134 rfl rfl ?_
          obtain ⟨o10, K⟩ := K
          refine mw_ialdL (pc' := 137) dX1_copyMoved_136 rfl (skBT_1_8 hS ta1) (skBL_1_8 hS ta1) o10 ?_
          obtain ⟨o11, K⟩ := K
          refine mw_iastK (pc' := 138) dX1_copyMoved_137 rfl (skBT_1_8 hS ta0) (skBL_1_8 hS ta0) o11 hS (fun h12 eh12 hS => ?_)
          replace K := K h12 eh12
          have ta0 : mT h12 a0 = 2 := by rw [eh12]; exact ta0
          have ta1 : mT h12 a1 = 2 := by rw [eh12]; exact ta1
          refine mw_iinc (pc' := 141) (v := v6 + 1) dX1_copyMoved_138 rfl (by decide) rfl rfl ?_
          show mW _ _ _ _ _ [some (.inr (some a0)), some (.inr (some a1)), some (.inl v2), some (.inl v3), some (.inl v4), some (.inl v5), some (.inl (v6 + 1)), some (.inl w1)] _ _ _
          refine mw_goto (tgt := 35) dX1_copyMoved_141 (by decide) ?_
          refine mw_weak (ls' := [some (.inr (some a0)), some (.inr (some a1)), some (.inl v2), some (.inl v3), some (.inl v4), some (.inl v5), some (.inl (v6 + 1)), none]) ?_ ?_
          · intro i v hv; match i, hv with
            | 0, hv => exact hv
            | 1, hv => exact hv
            | 2, hv => exact hv
            | 3, hv => exact hv
            | 4, hv => exact hv
            | 5, hv => exact hv
            | 6, hv => exact hv
            | 7, hv => cases hv
            | n + 8, hv => cases hv
          exact K
        refine mw_if_eq (pc' := 112) (tgt := 121) dX1_copyMoved_109 rfl (by decide) (fun c14 => ?_) (fun c14 => ?_)
        · refine mw_iconst (pc' := 122) (v := 0) dX1_copyMoved_121 rfl (by decide) ?_
          exact J13 _ (by rw [if_pos c14])
        · refine mw_iload (pc' := 114) dX1_copyMoved_112 rfl rfl ?_
          refine mw_if_eq (pc' := 117) (tgt := 121) dX1_copyMoved_114 rfl (by decide) (fun c15 => ?_) (fun c15 => ?_)
          · refine mw_iconst (pc' := 122) (v := 0) dX1_copyMoved_121 rfl (by decide) ?_
            exact J13 _ (by rw [if_neg c14, if_pos c15])
          · refine mw_iload_n (pc' := 118) dX1_copyMoved_117 rfl rfl ?_
            refine mw_goto (tgt := 122) dX1_copyMoved_118 (by decide) ?_
            exact J13 _ (by rw [if_neg c14, if_neg c15])
      refine mw_if_eq (pc' := 82) (tgt := 91) dX1_copyMoved_79 rfl (by decide) (fun c17 => ?_) (fun c17 => ?_)
      · refine mw_iconst (pc' := 92) (v := 0) dX1_copyMoved_91 rfl (by decide) ?_
        exact J16 _ (by rw [if_pos c17])
      · refine mw_iload (pc' := 84) dX1_copyMoved_82 rfl rfl ?_
        refine mw_if_ne (pc' := 87) (tgt := 91) dX1_copyMoved_84 rfl (by decide) (fun c18 => ?_) (fun c18 => ?_)
        · refine mw_iconst (pc' := 92) (v := 0) dX1_copyMoved_91 rfl (by decide) ?_
          exact J16 _ (by rw [if_neg c17, if_pos c18])
        · refine mw_iload_n (pc' := 88) dX1_copyMoved_87 rfl rfl ?_
          refine mw_goto (tgt := 92) dX1_copyMoved_88 (by decide) ?_
          exact J16 _ (by rw [if_neg c17, if_neg (fun z => z c18)])
    refine mw_icmp_eq (pc' := 50) (tgt := 57) dX1_copyMoved_47 rfl (by decide) (fun c20 => ?_) (fun c20 => ?_)
    · refine mw_iconst (pc' := 58) (v := 1) dX1_copyMoved_57 rfl (by decide) ?_
      refine mw_goto (tgt := 62) dX1_copyMoved_58 (by decide) ?_
      exact J19 _ (by rw [if_pos c20])
    · refine mw_iload (pc' := 52) dX1_copyMoved_50 rfl rfl ?_
      refine mw_iload (pc' := 54) dX1_copyMoved_52 rfl rfl ?_
      refine mw_icmp_ne (pc' := 57) (tgt := 61) dX1_copyMoved_54 rfl (by decide) (fun c21 => ?_) (fun c21 => ?_)
      · refine mw_iconst (pc' := 62) (v := 0) dX1_copyMoved_61 rfl (by decide) ?_
        exact J19 _ (by rw [if_neg c20, if_pos c21])
      · refine mw_iconst (pc' := 58) (v := 1) dX1_copyMoved_57 rfl (by decide) ?_
        refine mw_goto (tgt := 62) dX1_copyMoved_58 (by decide) ?_
        exact J19 _ (by rw [if_neg c20, if_neg (fun z => z c21)])

set_option maxRecDepth 100000 in
set_option maxHeartbeats 4000000 in
theorem qX1_canMoveSide {G : mG} {d : Nat} {b : Nat × Nat} {h : mH} {Q : Option mV → mH → Prop} (a : Nat) (v1 : Int32) (v2 : Int32) (ta : mT h a = 2) (hS : mSk h)
    (K : ((¬ (v1 &&& 1) = 0 → ((v1 ≤ 0 → (((mI h a 1) ≤ (v1 + 2) → vp_in v1 16 ∧ (((f_X11_within ((mI h (a + 6) v1.toNatClampNeg) + v2) 0 32) = 0 → Q (some (.inl 0)) h) ∧ (¬ (f_X11_within ((mI h (a + 6) v1.toNatClampNeg) + v2) 0 32) = 0 → vp_in ((mI h a 1) - 1) 16 ∧ (((mI h (a + 6) ((mI h a 1) - 1).toNatClampNeg) = ((mI h (a + 6) v1.toNatClampNeg) + v2) → Q (some (.inl 0)) h) ∧ (¬ (mI h (a + 6) ((mI h a 1) - 1).toNatClampNeg) = ((mI h (a + 6) v1.toNatClampNeg) + v2) → vp_in ((v1 + 2) - (mI h a 1)) 16 ∧ ∀ w4 : Int32, w4 = (if (mI h (a + 6) ((v1 + 2) - (mI h a 1)).toNatClampNeg) = ((mI h (a + 6) v1.toNatClampNeg) + v2) then 0 else 1) → Q (some (.inl w4)) h))))) ∧ (¬ ((mI h a 1) ≤ (v1 + 2)) → vp_in v1 16 ∧ (((f_X11_within ((mI h (a + 6) v1.toNatClampNeg) + v2) 0 32) = 0 → Q (some (.inl 0)) h) ∧ (¬ (f_X11_within ((mI h (a + 6) v1.toNatClampNeg) + v2) 0 32) = 0 → vp_in ((mI h a 1) - 1) 16 ∧ (((mI h (a + 6) ((mI h a 1) - 1).toNatClampNeg) = ((mI h (a + 6) v1.toNatClampNeg) + v2) → Q (some (.inl 0)) h) ∧ (¬ (mI h (a + 6) ((mI h a 1) - 1).toNatClampNeg) = ((mI h (a + 6) v1.toNatClampNeg) + v2) → vp_in (v1 + 2) 16 ∧ ∀ w12 : Int32, w12 = (if (mI h (a + 6) (v1 + 2).toNatClampNeg) = ((mI h (a + 6) v1.toNatClampNeg) + v2) then 0 else 1) → Q (some (.inl w12)) h))))))) ∧ (¬ (v1 ≤ 0) → (((mI h a 1) ≤ (v1 + 2) → vp_in v1 16 ∧ (((f_X11_within ((mI h (a + 6) v1.toNatClampNeg) + v2) 0 32) = 0 → Q (some (.inl 0)) h) ∧ (¬ (f_X11_within ((mI h (a + 6) v1.toNatClampNeg) + v2) 0 32) = 0 → vp_in (v1 - 1) 16 ∧ (((mI h (a + 6) (v1 - 1).toNatClampNeg) = ((mI h (a + 6) v1.toNatClampNeg) + v2) → Q (some (.inl 0)) h) ∧ (¬ (mI h (a + 6) (v1 - 1).toNatClampNeg) = ((mI h (a + 6) v1.toNatClampNeg) + v2) → vp_in ((v1 + 2) - (mI h a 1)) 16 ∧ ∀ w21 : Int32, w21 = (if (mI h (a + 6) ((v1 + 2) - (mI h a 1)).toNatClampNeg) = ((mI h (a + 6) v1.toNatClampNeg) + v2) then 0 else 1) → Q (some (.inl w21)) h))))) ∧ (¬ ((mI h a 1) ≤ (v1 + 2)) → vp_in v1 16 ∧ (((f_X11_within ((mI h (a + 6) v1.toNatClampNeg) + v2) 0 32) = 0 → Q (some (.inl 0)) h) ∧ (¬ (f_X11_within ((mI h (a + 6) v1.toNatClampNeg) + v2) 0 32) = 0 → vp_in (v1 - 1) 16 ∧ (((mI h (a + 6) (v1 - 1).toNatClampNeg) = ((mI h (a + 6) v1.toNatClampNeg) + v2) → Q (some (.inl 0)) h) ∧ (¬ (mI h (a + 6) (v1 - 1).toNatClampNeg) = ((mI h (a + 6) v1.toNatClampNeg) + v2) → vp_in (v1 + 2) 16 ∧ ∀ w29 : Int32, w29 = (if (mI h (a + 6) (v1 + 2).toNatClampNeg) = ((mI h (a + 6) v1.toNatClampNeg) + v2) then 0 else 1) → Q (some (.inl w29)) h))))))))) ∧ ((v1 &&& 1) = 0 → ((v1 ≤ 0 → (((mI h a 1) ≤ (v1 + 2) → vp_in v1 16 ∧ (((f_X11_within ((mI h (a + 7) v1.toNatClampNeg) + v2) 0 32) = 0 → Q (some (.inl 0)) h) ∧ (¬ (f_X11_within ((mI h (a + 7) v1.toNatClampNeg) + v2) 0 32) = 0 → vp_in ((mI h a 1) - 1) 16 ∧ (((mI h (a + 7) ((mI h a 1) - 1).toNatClampNeg) = ((mI h (a + 7) v1.toNatClampNeg) + v2) → Q (some (.inl 0)) h) ∧ (¬ (mI h (a + 7) ((mI h a 1) - 1).toNatClampNeg) = ((mI h (a + 7) v1.toNatClampNeg) + v2) → vp_in ((v1 + 2) - (mI h a 1)) 16 ∧ ∀ w39 : Int32, w39 = (if (mI h (a + 7) ((v1 + 2) - (mI h a 1)).toNatClampNeg) = ((mI h (a + 7) v1.toNatClampNeg) + v2) then 0 else 1) → Q (some (.inl w39)) h))))) ∧ (¬ ((mI h a 1) ≤ (v1 + 2)) → vp_in v1 16 ∧ (((f_X11_within ((mI h (a + 7) v1.toNatClampNeg) + v2) 0 32) = 0 → Q (some (.inl 0)) h) ∧ (¬ (f_X11_within ((mI h (a + 7) v1.toNatClampNeg) + v2) 0 32) = 0 → vp_in ((mI h a 1) - 1) 16 ∧ (((mI h (a + 7) ((mI h a 1) - 1).toNatClampNeg) = ((mI h (a + 7) v1.toNatClampNeg) + v2) → Q (some (.inl 0)) h) ∧ (¬ (mI h (a + 7) ((mI h a 1) - 1).toNatClampNeg) = ((mI h (a + 7) v1.toNatClampNeg) + v2) → vp_in (v1 + 2) 16 ∧ ∀ w47 : Int32, w47 = (if (mI h (a + 7) (v1 + 2).toNatClampNeg) = ((mI h (a + 7) v1.toNatClampNeg) + v2) then 0 else 1) → Q (some (.inl w47)) h))))))) ∧ (¬ (v1 ≤ 0) → (((mI h a 1) ≤ (v1 + 2) → vp_in v1 16 ∧ (((f_X11_within ((mI h (a + 7) v1.toNatClampNeg) + v2) 0 32) = 0 → Q (some (.inl 0)) h) ∧ (¬ (f_X11_within ((mI h (a + 7) v1.toNatClampNeg) + v2) 0 32) = 0 → vp_in (v1 - 1) 16 ∧ (((mI h (a + 7) (v1 - 1).toNatClampNeg) = ((mI h (a + 7) v1.toNatClampNeg) + v2) → Q (some (.inl 0)) h) ∧ (¬ (mI h (a + 7) (v1 - 1).toNatClampNeg) = ((mI h (a + 7) v1.toNatClampNeg) + v2) → vp_in ((v1 + 2) - (mI h a 1)) 16 ∧ ∀ w56 : Int32, w56 = (if (mI h (a + 7) ((v1 + 2) - (mI h a 1)).toNatClampNeg) = ((mI h (a + 7) v1.toNatClampNeg) + v2) then 0 else 1) → Q (some (.inl w56)) h))))) ∧ (¬ ((mI h a 1) ≤ (v1 + 2)) → vp_in v1 16 ∧ (((f_X11_within ((mI h (a + 7) v1.toNatClampNeg) + v2) 0 32) = 0 → Q (some (.inl 0)) h) ∧ (¬ (f_X11_within ((mI h (a + 7) v1.toNatClampNeg) + v2) 0 32) = 0 → vp_in (v1 - 1) 16 ∧ (((mI h (a + 7) (v1 - 1).toNatClampNeg) = ((mI h (a + 7) v1.toNatClampNeg) + v2) → Q (some (.inl 0)) h) ∧ (¬ (mI h (a + 7) (v1 - 1).toNatClampNeg) = ((mI h (a + 7) v1.toNatClampNeg) + v2) → vp_in (v1 + 2) 16 ∧ ∀ w64 : Int32, w64 = (if (mI h (a + 7) (v1 + 2).toNatClampNeg) = ((mI h (a + 7) v1.toNatClampNeg) + v2) then 0 else 1) → Q (some (.inl w64)) h))))))))))) : mC G kX1_canMoveSide (d + 1) b [.inr (some a), .inl v1, .inl v2] h Q := by
  refine mC_in rfl (Nat.le_of_ble_eq_true rfl) ?_
  show mW _ _ _ _ _ [some (.inr (some a)), some (.inl v1), some (.inl v2), none, none, none, none] _ _ _
  refine mw_iload_n (pc' := 1) dX1_canMoveSide_0 rfl rfl ?_
  refine mw_iconst (pc' := 2) (v := 1) dX1_canMoveSide_1 rfl (by decide) ?_
  refine mw_iand (pc' := 3) dX1_canMoveSide_2 rfl ?_
  refine mw_if_ne (pc' := 6) (tgt := 13) dX1_canMoveSide_3 rfl (by decide) (fun c71 => ?_) (fun c71 => ?_)
  · replace K := K.1 c71
    refine mw_aload_n (pc' := 14) dX1_canMoveSide_13 rfl rfl ?_
    refine mw_getR (pc' := 17) dX1_canMoveSide_14 rfl flX1_35 rfl (ta) ?_
    rw [skBR_1_2 hS ta]
    refine mw_astore_n (pc' := 18) dX1_canMoveSide_17 rfl (by decide) ?_
    show mW _ _ _ _ _ [some (.inr (some a)), some (.inl v1), some (.inl v2), some (.inr (some (a + 6))), none, none, none] _ _ _
    refine mw_iload_n (pc' := 19) dX1_canMoveSide_18 rfl rfl ?_
    refine mw_if_le (pc' := 22) (tgt := 28) dX1_canMoveSide_19 rfl (by decide) (fun c35 => ?_) (fun c35 => ?_)
    · replace K := K.1 c35
      refine mw_aload_n (pc' := 29) dX1_canMoveSide_28 rfl rfl ?_
      refine mw_getI (pc' := 32) dX1_canMoveSide_29 rfl flX1_32 rfl (ta) ?_
      refine mw_iconst (pc' := 33) (v := 1) dX1_canMoveSide_32 rfl (by decide) ?_
      refine mw_isub (pc' := 34) dX1_canMoveSide_33 rfl ?_
      refine mw_istore (pc' := 36) dX1_canMoveSide_34 rfl (by decide) ?_
      show mW _ _ _ _ _ [some (.inr (some a)), some (.inl v1), some (.inl v2), some (.inr (some (a + 6))), some (.inl ((mI h a 1) - 1)), none, none] _ _ _
      refine mw_iload_n (pc' := 37) dX1_canMoveSide_36 rfl rfl ?_
      refine mw_iconst (pc' := 38) (v := 2) dX1_canMoveSide_37 rfl (by decide) ?_
      refine mw_iadd (pc' := 39) dX1_canMoveSide_38 rfl ?_
      refine mw_aload_n (pc' := 40) dX1_canMoveSide_39 rfl rfl ?_
      refine mw_getI (pc' := 43) dX1_canMoveSide_40 rfl flX1_32 rfl (ta) ?_
      refine mw_icmp_ge (pc' := 46) (tgt := 52) dX1_canMoveSide_43 rfl (by decide) (fun c17 => ?_) (fun c17 => ?_)
      · replace K := K.1 c17
        refine mw_iload_n (pc' := 53) dX1_canMoveSide_52 rfl rfl ?_
        refine mw_iconst (pc' := 54) (v := 2) dX1_canMoveSide_53 rfl (by decide) ?_
        refine mw_iadd (pc' := 55) dX1_canMoveSide_54 rfl ?_
        refine mw_aload_n (pc' := 56) dX1_canMoveSide_55 rfl rfl ?_
        refine mw_getI (pc' := 59) dX1_canMoveSide_56 rfl flX1_32 rfl (ta) ?_
        refine mw_isub (pc' := 60) dX1_canMoveSide_59 rfl ?_
        refine mw_istore (pc' := 62) dX1_canMoveSide_60 rfl (by decide) ?_
        show mW _ _ _ _ _ [some (.inr (some a)), some (.inl v1), some (.inl v2), some (.inr (some (a + 6))), some (.inl ((mI h a 1) - 1)), some (.inl ((v1 + 2) - (mI h a 1))), none] _ _ _
        refine mw_aload_n (pc' := 63) dX1_canMoveSide_62 rfl rfl ?_
        refine mw_iload_n (pc' := 64) dX1_canMoveSide_63 rfl rfl ?_
        obtain ⟨o1, K⟩ := K
        refine mw_ialdL (pc' := 65) dX1_canMoveSide_64 rfl (skBT_1_6 hS ta) (skBL_1_6 hS ta) o1 ?_
        refine mw_iload_n (pc' := 66) dX1_canMoveSide_65 rfl rfl ?_
        refine mw_iadd (pc' := 67) dX1_canMoveSide_66 rfl ?_
        refine mw_istore (pc' := 69) dX1_canMoveSide_67 rfl (by decide) ?_
        show mW _ _ _ _ _ [some (.inr (some a)), some (.inl v1), some (.inl v2), some (.inr (some (a + 6))), some (.inl ((mI h a 1) - 1)), some (.inl ((v1 + 2) - (mI h a 1))), some (.inl ((mI h (a + 6) v1.toNatClampNeg) + v2))] _ _ _
        refine mw_iload (pc' := 71) dX1_canMoveSide_69 rfl rfl ?_
        refine mw_iconst (pc' := 72) (v := 0) dX1_canMoveSide_71 rfl (by decide) ?_
        refine mw_bipush (pc' := 74) (v := 32) dX1_canMoveSide_72 rfl (by decide) ?_
        refine mw_callS (pc' := 77) (b' := (0, 0)) (b1 := b) (av := [.inl ((mI h (a + 6) v1.toNatClampNeg) + v2), .inl 0, .inl 32]) (rest := []) dX1_canMoveSide_74 rfl lkX1_44 rfl rfl (Nat.le_of_ble_eq_true rfl) ⟨Nat.le_of_eq (Nat.zero_add _), Nat.le_of_eq (Nat.zero_add _)⟩ ?_
        refine pX11_within ?_
        refine mw_if_eq (pc' := 80) (tgt := 102) dX1_canMoveSide_77 rfl (by decide) (fun c8 => ?_) (fun c8 => ?_)
        · replace K := K.1 c8
          refine mw_iconst (pc' := 103) (v := 0) dX1_canMoveSide_102 rfl (by decide) ?_
          exact mw_iret dX1_canMoveSide_103 rfl (by decide) K
        · replace K := K.2 c8
          refine mw_aload_n (pc' := 81) dX1_canMoveSide_80 rfl rfl ?_
          refine mw_iload (pc' := 83) dX1_canMoveSide_81 rfl rfl ?_
          obtain ⟨o2, K⟩ := K
          refine mw_ialdL (pc' := 84) dX1_canMoveSide_83 rfl (skBT_1_6 hS ta) (skBL_1_6 hS ta) o2 ?_
          refine mw_iload (pc' := 86) dX1_canMoveSide_84 rfl rfl ?_
          refine mw_icmp_eq (pc' := 89) (tgt := 102) dX1_canMoveSide_86 rfl (by decide) (fun c7 => ?_) (fun c7 => ?_)
          · replace K := K.1 c7
            refine mw_iconst (pc' := 103) (v := 0) dX1_canMoveSide_102 rfl (by decide) ?_
            exact mw_iret dX1_canMoveSide_103 rfl (by decide) K
          · replace K := K.2 c7
            refine mw_aload_n (pc' := 90) dX1_canMoveSide_89 rfl rfl ?_
            refine mw_iload (pc' := 92) dX1_canMoveSide_90 rfl rfl ?_
            obtain ⟨o3, K⟩ := K
            refine mw_ialdL (pc' := 93) dX1_canMoveSide_92 rfl (skBT_1_6 hS ta) (skBL_1_6 hS ta) o3 ?_
            refine mw_iload (pc' := 95) dX1_canMoveSide_93 rfl rfl ?_
            have J5 : ∀ w4 : Int32, w4 = (if (mI h (a + 6) ((v1 + 2) - (mI h a 1)).toNatClampNeg) = ((mI h (a + 6) v1.toNatClampNeg) + v2) then 0 else 1) → mW G kX1_canMoveSide (d + 1) b 103 [some (.inr (some a)), some (.inl v1), some (.inl v2), some (.inr (some (a + 6))), some (.inl ((mI h a 1) - 1)), some (.inl ((v1 + 2) - (mI h a 1))), some (.inl ((mI h (a + 6) v1.toNatClampNeg) + v2))] ([.inl w4]) h Q := by
              intro w4 ew4
              replace K := K w4 ew4
              exact mw_iret dX1_canMoveSide_103 rfl (m_boolN (by rw [ew4]; exact (m_boolI m_bool0 m_bool1))) K
            refine mw_icmp_eq (pc' := 98) (tgt := 102) dX1_canMoveSide_95 rfl (by decide) (fun c6 => ?_) (fun c6 => ?_)
            · refine mw_iconst (pc' := 103) (v := 0) dX1_canMoveSide_102 rfl (by decide) ?_
              exact J5 _ (by rw [if_pos c6])
            · refine mw_iconst (pc' := 99) (v := 1) dX1_canMoveSide_98 rfl (by decide) ?_
              refine mw_goto (tgt := 103) dX1_canMoveSide_99 (by decide) ?_
              exact J5 _ (by rw [if_neg c6])
      · replace K := K.2 c17
        refine mw_iload_n (pc' := 47) dX1_canMoveSide_46 rfl rfl ?_
        refine mw_iconst (pc' := 48) (v := 2) dX1_canMoveSide_47 rfl (by decide) ?_
        refine mw_iadd (pc' := 49) dX1_canMoveSide_48 rfl ?_
        refine mw_goto (tgt := 60) dX1_canMoveSide_49 (by decide) ?_
        refine mw_istore (pc' := 62) dX1_canMoveSide_60 rfl (by decide) ?_
        show mW _ _ _ _ _ [some (.inr (some a)), some (.inl v1), some (.inl v2), some (.inr (some (a + 6))), some (.inl ((mI h a 1) - 1)), some (.inl (v1 + 2)), none] _ _ _
        refine mw_aload_n (pc' := 63) dX1_canMoveSide_62 rfl rfl ?_
        refine mw_iload_n (pc' := 64) dX1_canMoveSide_63 rfl rfl ?_
        obtain ⟨o9, K⟩ := K
        refine mw_ialdL (pc' := 65) dX1_canMoveSide_64 rfl (skBT_1_6 hS ta) (skBL_1_6 hS ta) o9 ?_
        refine mw_iload_n (pc' := 66) dX1_canMoveSide_65 rfl rfl ?_
        refine mw_iadd (pc' := 67) dX1_canMoveSide_66 rfl ?_
        refine mw_istore (pc' := 69) dX1_canMoveSide_67 rfl (by decide) ?_
        show mW _ _ _ _ _ [some (.inr (some a)), some (.inl v1), some (.inl v2), some (.inr (some (a + 6))), some (.inl ((mI h a 1) - 1)), some (.inl (v1 + 2)), some (.inl ((mI h (a + 6) v1.toNatClampNeg) + v2))] _ _ _
        refine mw_iload (pc' := 71) dX1_canMoveSide_69 rfl rfl ?_
        refine mw_iconst (pc' := 72) (v := 0) dX1_canMoveSide_71 rfl (by decide) ?_
        refine mw_bipush (pc' := 74) (v := 32) dX1_canMoveSide_72 rfl (by decide) ?_
        refine mw_callS (pc' := 77) (b' := (0, 0)) (b1 := b) (av := [.inl ((mI h (a + 6) v1.toNatClampNeg) + v2), .inl 0, .inl 32]) (rest := []) dX1_canMoveSide_74 rfl lkX1_44 rfl rfl (Nat.le_of_ble_eq_true rfl) ⟨Nat.le_of_eq (Nat.zero_add _), Nat.le_of_eq (Nat.zero_add _)⟩ ?_
        refine pX11_within ?_
        refine mw_if_eq (pc' := 80) (tgt := 102) dX1_canMoveSide_77 rfl (by decide) (fun c16 => ?_) (fun c16 => ?_)
        · replace K := K.1 c16
          refine mw_iconst (pc' := 103) (v := 0) dX1_canMoveSide_102 rfl (by decide) ?_
          exact mw_iret dX1_canMoveSide_103 rfl (by decide) K
        · replace K := K.2 c16
          refine mw_aload_n (pc' := 81) dX1_canMoveSide_80 rfl rfl ?_
          refine mw_iload (pc' := 83) dX1_canMoveSide_81 rfl rfl ?_
          obtain ⟨o10, K⟩ := K
          refine mw_ialdL (pc' := 84) dX1_canMoveSide_83 rfl (skBT_1_6 hS ta) (skBL_1_6 hS ta) o10 ?_
          refine mw_iload (pc' := 86) dX1_canMoveSide_84 rfl rfl ?_
          refine mw_icmp_eq (pc' := 89) (tgt := 102) dX1_canMoveSide_86 rfl (by decide) (fun c15 => ?_) (fun c15 => ?_)
          · replace K := K.1 c15
            refine mw_iconst (pc' := 103) (v := 0) dX1_canMoveSide_102 rfl (by decide) ?_
            exact mw_iret dX1_canMoveSide_103 rfl (by decide) K
          · replace K := K.2 c15
            refine mw_aload_n (pc' := 90) dX1_canMoveSide_89 rfl rfl ?_
            refine mw_iload (pc' := 92) dX1_canMoveSide_90 rfl rfl ?_
            obtain ⟨o11, K⟩ := K
            refine mw_ialdL (pc' := 93) dX1_canMoveSide_92 rfl (skBT_1_6 hS ta) (skBL_1_6 hS ta) o11 ?_
            refine mw_iload (pc' := 95) dX1_canMoveSide_93 rfl rfl ?_
            have J13 : ∀ w12 : Int32, w12 = (if (mI h (a + 6) (v1 + 2).toNatClampNeg) = ((mI h (a + 6) v1.toNatClampNeg) + v2) then 0 else 1) → mW G kX1_canMoveSide (d + 1) b 103 [some (.inr (some a)), some (.inl v1), some (.inl v2), some (.inr (some (a + 6))), some (.inl ((mI h a 1) - 1)), some (.inl (v1 + 2)), some (.inl ((mI h (a + 6) v1.toNatClampNeg) + v2))] ([.inl w12]) h Q := by
              intro w12 ew12
              replace K := K w12 ew12
              exact mw_iret dX1_canMoveSide_103 rfl (m_boolN (by rw [ew12]; exact (m_boolI m_bool0 m_bool1))) K
            refine mw_icmp_eq (pc' := 98) (tgt := 102) dX1_canMoveSide_95 rfl (by decide) (fun c14 => ?_) (fun c14 => ?_)
            · refine mw_iconst (pc' := 103) (v := 0) dX1_canMoveSide_102 rfl (by decide) ?_
              exact J13 _ (by rw [if_pos c14])
            · refine mw_iconst (pc' := 99) (v := 1) dX1_canMoveSide_98 rfl (by decide) ?_
              refine mw_goto (tgt := 103) dX1_canMoveSide_99 (by decide) ?_
              exact J13 _ (by rw [if_neg c14])
    · replace K := K.2 c35
      refine mw_iload_n (pc' := 23) dX1_canMoveSide_22 rfl rfl ?_
      refine mw_iconst (pc' := 24) (v := 1) dX1_canMoveSide_23 rfl (by decide) ?_
      refine mw_isub (pc' := 25) dX1_canMoveSide_24 rfl ?_
      refine mw_goto (tgt := 34) dX1_canMoveSide_25 (by decide) ?_
      refine mw_istore (pc' := 36) dX1_canMoveSide_34 rfl (by decide) ?_
      show mW _ _ _ _ _ [some (.inr (some a)), some (.inl v1), some (.inl v2), some (.inr (some (a + 6))), some (.inl (v1 - 1)), none, none] _ _ _
      refine mw_iload_n (pc' := 37) dX1_canMoveSide_36 rfl rfl ?_
      refine mw_iconst (pc' := 38) (v := 2) dX1_canMoveSide_37 rfl (by decide) ?_
      refine mw_iadd (pc' := 39) dX1_canMoveSide_38 rfl ?_
      refine mw_aload_n (pc' := 40) dX1_canMoveSide_39 rfl rfl ?_
      refine mw_getI (pc' := 43) dX1_canMoveSide_40 rfl flX1_32 rfl (ta) ?_
      refine mw_icmp_ge (pc' := 46) (tgt := 52) dX1_canMoveSide_43 rfl (by decide) (fun c34 => ?_) (fun c34 => ?_)
      · replace K := K.1 c34
        refine mw_iload_n (pc' := 53) dX1_canMoveSide_52 rfl rfl ?_
        refine mw_iconst (pc' := 54) (v := 2) dX1_canMoveSide_53 rfl (by decide) ?_
        refine mw_iadd (pc' := 55) dX1_canMoveSide_54 rfl ?_
        refine mw_aload_n (pc' := 56) dX1_canMoveSide_55 rfl rfl ?_
        refine mw_getI (pc' := 59) dX1_canMoveSide_56 rfl flX1_32 rfl (ta) ?_
        refine mw_isub (pc' := 60) dX1_canMoveSide_59 rfl ?_
        refine mw_istore (pc' := 62) dX1_canMoveSide_60 rfl (by decide) ?_
        show mW _ _ _ _ _ [some (.inr (some a)), some (.inl v1), some (.inl v2), some (.inr (some (a + 6))), some (.inl (v1 - 1)), some (.inl ((v1 + 2) - (mI h a 1))), none] _ _ _
        refine mw_aload_n (pc' := 63) dX1_canMoveSide_62 rfl rfl ?_
        refine mw_iload_n (pc' := 64) dX1_canMoveSide_63 rfl rfl ?_
        obtain ⟨o18, K⟩ := K
        refine mw_ialdL (pc' := 65) dX1_canMoveSide_64 rfl (skBT_1_6 hS ta) (skBL_1_6 hS ta) o18 ?_
        refine mw_iload_n (pc' := 66) dX1_canMoveSide_65 rfl rfl ?_
        refine mw_iadd (pc' := 67) dX1_canMoveSide_66 rfl ?_
        refine mw_istore (pc' := 69) dX1_canMoveSide_67 rfl (by decide) ?_
        show mW _ _ _ _ _ [some (.inr (some a)), some (.inl v1), some (.inl v2), some (.inr (some (a + 6))), some (.inl (v1 - 1)), some (.inl ((v1 + 2) - (mI h a 1))), some (.inl ((mI h (a + 6) v1.toNatClampNeg) + v2))] _ _ _
        refine mw_iload (pc' := 71) dX1_canMoveSide_69 rfl rfl ?_
        refine mw_iconst (pc' := 72) (v := 0) dX1_canMoveSide_71 rfl (by decide) ?_
        refine mw_bipush (pc' := 74) (v := 32) dX1_canMoveSide_72 rfl (by decide) ?_
        refine mw_callS (pc' := 77) (b' := (0, 0)) (b1 := b) (av := [.inl ((mI h (a + 6) v1.toNatClampNeg) + v2), .inl 0, .inl 32]) (rest := []) dX1_canMoveSide_74 rfl lkX1_44 rfl rfl (Nat.le_of_ble_eq_true rfl) ⟨Nat.le_of_eq (Nat.zero_add _), Nat.le_of_eq (Nat.zero_add _)⟩ ?_
        refine pX11_within ?_
        refine mw_if_eq (pc' := 80) (tgt := 102) dX1_canMoveSide_77 rfl (by decide) (fun c25 => ?_) (fun c25 => ?_)
        · replace K := K.1 c25
          refine mw_iconst (pc' := 103) (v := 0) dX1_canMoveSide_102 rfl (by decide) ?_
          exact mw_iret dX1_canMoveSide_103 rfl (by decide) K
        · replace K := K.2 c25
          refine mw_aload_n (pc' := 81) dX1_canMoveSide_80 rfl rfl ?_
          refine mw_iload (pc' := 83) dX1_canMoveSide_81 rfl rfl ?_
          obtain ⟨o19, K⟩ := K
          refine mw_ialdL (pc' := 84) dX1_canMoveSide_83 rfl (skBT_1_6 hS ta) (skBL_1_6 hS ta) o19 ?_
          refine mw_iload (pc' := 86) dX1_canMoveSide_84 rfl rfl ?_
          refine mw_icmp_eq (pc' := 89) (tgt := 102) dX1_canMoveSide_86 rfl (by decide) (fun c24 => ?_) (fun c24 => ?_)
          · replace K := K.1 c24
            refine mw_iconst (pc' := 103) (v := 0) dX1_canMoveSide_102 rfl (by decide) ?_
            exact mw_iret dX1_canMoveSide_103 rfl (by decide) K
          · replace K := K.2 c24
            refine mw_aload_n (pc' := 90) dX1_canMoveSide_89 rfl rfl ?_
            refine mw_iload (pc' := 92) dX1_canMoveSide_90 rfl rfl ?_
            obtain ⟨o20, K⟩ := K
            refine mw_ialdL (pc' := 93) dX1_canMoveSide_92 rfl (skBT_1_6 hS ta) (skBL_1_6 hS ta) o20 ?_
            refine mw_iload (pc' := 95) dX1_canMoveSide_93 rfl rfl ?_
            have J22 : ∀ w21 : Int32, w21 = (if (mI h (a + 6) ((v1 + 2) - (mI h a 1)).toNatClampNeg) = ((mI h (a + 6) v1.toNatClampNeg) + v2) then 0 else 1) → mW G kX1_canMoveSide (d + 1) b 103 [some (.inr (some a)), some (.inl v1), some (.inl v2), some (.inr (some (a + 6))), some (.inl (v1 - 1)), some (.inl ((v1 + 2) - (mI h a 1))), some (.inl ((mI h (a + 6) v1.toNatClampNeg) + v2))] ([.inl w21]) h Q := by
              intro w21 ew21
              replace K := K w21 ew21
              exact mw_iret dX1_canMoveSide_103 rfl (m_boolN (by rw [ew21]; exact (m_boolI m_bool0 m_bool1))) K
            refine mw_icmp_eq (pc' := 98) (tgt := 102) dX1_canMoveSide_95 rfl (by decide) (fun c23 => ?_) (fun c23 => ?_)
            · refine mw_iconst (pc' := 103) (v := 0) dX1_canMoveSide_102 rfl (by decide) ?_
              exact J22 _ (by rw [if_pos c23])
            · refine mw_iconst (pc' := 99) (v := 1) dX1_canMoveSide_98 rfl (by decide) ?_
              refine mw_goto (tgt := 103) dX1_canMoveSide_99 (by decide) ?_
              exact J22 _ (by rw [if_neg c23])
      · replace K := K.2 c34
        refine mw_iload_n (pc' := 47) dX1_canMoveSide_46 rfl rfl ?_
        refine mw_iconst (pc' := 48) (v := 2) dX1_canMoveSide_47 rfl (by decide) ?_
        refine mw_iadd (pc' := 49) dX1_canMoveSide_48 rfl ?_
        refine mw_goto (tgt := 60) dX1_canMoveSide_49 (by decide) ?_
        refine mw_istore (pc' := 62) dX1_canMoveSide_60 rfl (by decide) ?_
        show mW _ _ _ _ _ [some (.inr (some a)), some (.inl v1), some (.inl v2), some (.inr (some (a + 6))), some (.inl (v1 - 1)), some (.inl (v1 + 2)), none] _ _ _
        refine mw_aload_n (pc' := 63) dX1_canMoveSide_62 rfl rfl ?_
        refine mw_iload_n (pc' := 64) dX1_canMoveSide_63 rfl rfl ?_
        obtain ⟨o26, K⟩ := K
        refine mw_ialdL (pc' := 65) dX1_canMoveSide_64 rfl (skBT_1_6 hS ta) (skBL_1_6 hS ta) o26 ?_
        refine mw_iload_n (pc' := 66) dX1_canMoveSide_65 rfl rfl ?_
        refine mw_iadd (pc' := 67) dX1_canMoveSide_66 rfl ?_
        refine mw_istore (pc' := 69) dX1_canMoveSide_67 rfl (by decide) ?_
        show mW _ _ _ _ _ [some (.inr (some a)), some (.inl v1), some (.inl v2), some (.inr (some (a + 6))), some (.inl (v1 - 1)), some (.inl (v1 + 2)), some (.inl ((mI h (a + 6) v1.toNatClampNeg) + v2))] _ _ _
        refine mw_iload (pc' := 71) dX1_canMoveSide_69 rfl rfl ?_
        refine mw_iconst (pc' := 72) (v := 0) dX1_canMoveSide_71 rfl (by decide) ?_
        refine mw_bipush (pc' := 74) (v := 32) dX1_canMoveSide_72 rfl (by decide) ?_
        refine mw_callS (pc' := 77) (b' := (0, 0)) (b1 := b) (av := [.inl ((mI h (a + 6) v1.toNatClampNeg) + v2), .inl 0, .inl 32]) (rest := []) dX1_canMoveSide_74 rfl lkX1_44 rfl rfl (Nat.le_of_ble_eq_true rfl) ⟨Nat.le_of_eq (Nat.zero_add _), Nat.le_of_eq (Nat.zero_add _)⟩ ?_
        refine pX11_within ?_
        refine mw_if_eq (pc' := 80) (tgt := 102) dX1_canMoveSide_77 rfl (by decide) (fun c33 => ?_) (fun c33 => ?_)
        · replace K := K.1 c33
          refine mw_iconst (pc' := 103) (v := 0) dX1_canMoveSide_102 rfl (by decide) ?_
          exact mw_iret dX1_canMoveSide_103 rfl (by decide) K
        · replace K := K.2 c33
          refine mw_aload_n (pc' := 81) dX1_canMoveSide_80 rfl rfl ?_
          refine mw_iload (pc' := 83) dX1_canMoveSide_81 rfl rfl ?_
          obtain ⟨o27, K⟩ := K
          refine mw_ialdL (pc' := 84) dX1_canMoveSide_83 rfl (skBT_1_6 hS ta) (skBL_1_6 hS ta) o27 ?_
          refine mw_iload (pc' := 86) dX1_canMoveSide_84 rfl rfl ?_
          refine mw_icmp_eq (pc' := 89) (tgt := 102) dX1_canMoveSide_86 rfl (by decide) (fun c32 => ?_) (fun c32 => ?_)
          · replace K := K.1 c32
            refine mw_iconst (pc' := 103) (v := 0) dX1_canMoveSide_102 rfl (by decide) ?_
            exact mw_iret dX1_canMoveSide_103 rfl (by decide) K
          · replace K := K.2 c32
            refine mw_aload_n (pc' := 90) dX1_canMoveSide_89 rfl rfl ?_
            refine mw_iload (pc' := 92) dX1_canMoveSide_90 rfl rfl ?_
            obtain ⟨o28, K⟩ := K
            refine mw_ialdL (pc' := 93) dX1_canMoveSide_92 rfl (skBT_1_6 hS ta) (skBL_1_6 hS ta) o28 ?_
            refine mw_iload (pc' := 95) dX1_canMoveSide_93 rfl rfl ?_
            have J30 : ∀ w29 : Int32, w29 = (if (mI h (a + 6) (v1 + 2).toNatClampNeg) = ((mI h (a + 6) v1.toNatClampNeg) + v2) then 0 else 1) → mW G kX1_canMoveSide (d + 1) b 103 [some (.inr (some a)), some (.inl v1), some (.inl v2), some (.inr (some (a + 6))), some (.inl (v1 - 1)), some (.inl (v1 + 2)), some (.inl ((mI h (a + 6) v1.toNatClampNeg) + v2))] ([.inl w29]) h Q := by
              intro w29 ew29
              replace K := K w29 ew29
              exact mw_iret dX1_canMoveSide_103 rfl (m_boolN (by rw [ew29]; exact (m_boolI m_bool0 m_bool1))) K
            refine mw_icmp_eq (pc' := 98) (tgt := 102) dX1_canMoveSide_95 rfl (by decide) (fun c31 => ?_) (fun c31 => ?_)
            · refine mw_iconst (pc' := 103) (v := 0) dX1_canMoveSide_102 rfl (by decide) ?_
              exact J30 _ (by rw [if_pos c31])
            · refine mw_iconst (pc' := 99) (v := 1) dX1_canMoveSide_98 rfl (by decide) ?_
              refine mw_goto (tgt := 103) dX1_canMoveSide_99 (by decide) ?_
              exact J30 _ (by rw [if_neg c31])
  · replace K := K.2 c71
    refine mw_aload_n (pc' := 7) dX1_canMoveSide_6 rfl rfl ?_
    refine mw_getR (pc' := 10) dX1_canMoveSide_7 rfl flX1_38 rfl (ta) ?_
    rw [skBR_1_3 hS ta]
    refine mw_goto (tgt := 17) dX1_canMoveSide_10 (by decide) ?_
    refine mw_astore_n (pc' := 18) dX1_canMoveSide_17 rfl (by decide) ?_
    show mW _ _ _ _ _ [some (.inr (some a)), some (.inl v1), some (.inl v2), some (.inr (some (a + 7))), none, none, none] _ _ _
    refine mw_iload_n (pc' := 19) dX1_canMoveSide_18 rfl rfl ?_
    refine mw_if_le (pc' := 22) (tgt := 28) dX1_canMoveSide_19 rfl (by decide) (fun c70 => ?_) (fun c70 => ?_)
    · replace K := K.1 c70
      refine mw_aload_n (pc' := 29) dX1_canMoveSide_28 rfl rfl ?_
      refine mw_getI (pc' := 32) dX1_canMoveSide_29 rfl flX1_32 rfl (ta) ?_
      refine mw_iconst (pc' := 33) (v := 1) dX1_canMoveSide_32 rfl (by decide) ?_
      refine mw_isub (pc' := 34) dX1_canMoveSide_33 rfl ?_
      refine mw_istore (pc' := 36) dX1_canMoveSide_34 rfl (by decide) ?_
      show mW _ _ _ _ _ [some (.inr (some a)), some (.inl v1), some (.inl v2), some (.inr (some (a + 7))), some (.inl ((mI h a 1) - 1)), none, none] _ _ _
      refine mw_iload_n (pc' := 37) dX1_canMoveSide_36 rfl rfl ?_
      refine mw_iconst (pc' := 38) (v := 2) dX1_canMoveSide_37 rfl (by decide) ?_
      refine mw_iadd (pc' := 39) dX1_canMoveSide_38 rfl ?_
      refine mw_aload_n (pc' := 40) dX1_canMoveSide_39 rfl rfl ?_
      refine mw_getI (pc' := 43) dX1_canMoveSide_40 rfl flX1_32 rfl (ta) ?_
      refine mw_icmp_ge (pc' := 46) (tgt := 52) dX1_canMoveSide_43 rfl (by decide) (fun c52 => ?_) (fun c52 => ?_)
      · replace K := K.1 c52
        refine mw_iload_n (pc' := 53) dX1_canMoveSide_52 rfl rfl ?_
        refine mw_iconst (pc' := 54) (v := 2) dX1_canMoveSide_53 rfl (by decide) ?_
        refine mw_iadd (pc' := 55) dX1_canMoveSide_54 rfl ?_
        refine mw_aload_n (pc' := 56) dX1_canMoveSide_55 rfl rfl ?_
        refine mw_getI (pc' := 59) dX1_canMoveSide_56 rfl flX1_32 rfl (ta) ?_
        refine mw_isub (pc' := 60) dX1_canMoveSide_59 rfl ?_
        refine mw_istore (pc' := 62) dX1_canMoveSide_60 rfl (by decide) ?_
        show mW _ _ _ _ _ [some (.inr (some a)), some (.inl v1), some (.inl v2), some (.inr (some (a + 7))), some (.inl ((mI h a 1) - 1)), some (.inl ((v1 + 2) - (mI h a 1))), none] _ _ _
        refine mw_aload_n (pc' := 63) dX1_canMoveSide_62 rfl rfl ?_
        refine mw_iload_n (pc' := 64) dX1_canMoveSide_63 rfl rfl ?_
        obtain ⟨o36, K⟩ := K
        refine mw_ialdL (pc' := 65) dX1_canMoveSide_64 rfl (skBT_1_7 hS ta) (skBL_1_7 hS ta) o36 ?_
        refine mw_iload_n (pc' := 66) dX1_canMoveSide_65 rfl rfl ?_
        refine mw_iadd (pc' := 67) dX1_canMoveSide_66 rfl ?_
        refine mw_istore (pc' := 69) dX1_canMoveSide_67 rfl (by decide) ?_
        show mW _ _ _ _ _ [some (.inr (some a)), some (.inl v1), some (.inl v2), some (.inr (some (a + 7))), some (.inl ((mI h a 1) - 1)), some (.inl ((v1 + 2) - (mI h a 1))), some (.inl ((mI h (a + 7) v1.toNatClampNeg) + v2))] _ _ _
        refine mw_iload (pc' := 71) dX1_canMoveSide_69 rfl rfl ?_
        refine mw_iconst (pc' := 72) (v := 0) dX1_canMoveSide_71 rfl (by decide) ?_
        refine mw_bipush (pc' := 74) (v := 32) dX1_canMoveSide_72 rfl (by decide) ?_
        refine mw_callS (pc' := 77) (b' := (0, 0)) (b1 := b) (av := [.inl ((mI h (a + 7) v1.toNatClampNeg) + v2), .inl 0, .inl 32]) (rest := []) dX1_canMoveSide_74 rfl lkX1_44 rfl rfl (Nat.le_of_ble_eq_true rfl) ⟨Nat.le_of_eq (Nat.zero_add _), Nat.le_of_eq (Nat.zero_add _)⟩ ?_
        refine pX11_within ?_
        refine mw_if_eq (pc' := 80) (tgt := 102) dX1_canMoveSide_77 rfl (by decide) (fun c43 => ?_) (fun c43 => ?_)
        · replace K := K.1 c43
          refine mw_iconst (pc' := 103) (v := 0) dX1_canMoveSide_102 rfl (by decide) ?_
          exact mw_iret dX1_canMoveSide_103 rfl (by decide) K
        · replace K := K.2 c43
          refine mw_aload_n (pc' := 81) dX1_canMoveSide_80 rfl rfl ?_
          refine mw_iload (pc' := 83) dX1_canMoveSide_81 rfl rfl ?_
          obtain ⟨o37, K⟩ := K
          refine mw_ialdL (pc' := 84) dX1_canMoveSide_83 rfl (skBT_1_7 hS ta) (skBL_1_7 hS ta) o37 ?_
          refine mw_iload (pc' := 86) dX1_canMoveSide_84 rfl rfl ?_
          refine mw_icmp_eq (pc' := 89) (tgt := 102) dX1_canMoveSide_86 rfl (by decide) (fun c42 => ?_) (fun c42 => ?_)
          · replace K := K.1 c42
            refine mw_iconst (pc' := 103) (v := 0) dX1_canMoveSide_102 rfl (by decide) ?_
            exact mw_iret dX1_canMoveSide_103 rfl (by decide) K
          · replace K := K.2 c42
            refine mw_aload_n (pc' := 90) dX1_canMoveSide_89 rfl rfl ?_
            refine mw_iload (pc' := 92) dX1_canMoveSide_90 rfl rfl ?_
            obtain ⟨o38, K⟩ := K
            refine mw_ialdL (pc' := 93) dX1_canMoveSide_92 rfl (skBT_1_7 hS ta) (skBL_1_7 hS ta) o38 ?_
            refine mw_iload (pc' := 95) dX1_canMoveSide_93 rfl rfl ?_
            have J40 : ∀ w39 : Int32, w39 = (if (mI h (a + 7) ((v1 + 2) - (mI h a 1)).toNatClampNeg) = ((mI h (a + 7) v1.toNatClampNeg) + v2) then 0 else 1) → mW G kX1_canMoveSide (d + 1) b 103 [some (.inr (some a)), some (.inl v1), some (.inl v2), some (.inr (some (a + 7))), some (.inl ((mI h a 1) - 1)), some (.inl ((v1 + 2) - (mI h a 1))), some (.inl ((mI h (a + 7) v1.toNatClampNeg) + v2))] ([.inl w39]) h Q := by
              intro w39 ew39
              replace K := K w39 ew39
              exact mw_iret dX1_canMoveSide_103 rfl (m_boolN (by rw [ew39]; exact (m_boolI m_bool0 m_bool1))) K
            refine mw_icmp_eq (pc' := 98) (tgt := 102) dX1_canMoveSide_95 rfl (by decide) (fun c41 => ?_) (fun c41 => ?_)
            · refine mw_iconst (pc' := 103) (v := 0) dX1_canMoveSide_102 rfl (by decide) ?_
              exact J40 _ (by rw [if_pos c41])
            · refine mw_iconst (pc' := 99) (v := 1) dX1_canMoveSide_98 rfl (by decide) ?_
              refine mw_goto (tgt := 103) dX1_canMoveSide_99 (by decide) ?_
              exact J40 _ (by rw [if_neg c41])
      · replace K := K.2 c52
        refine mw_iload_n (pc' := 47) dX1_canMoveSide_46 rfl rfl ?_
        refine mw_iconst (pc' := 48) (v := 2) dX1_canMoveSide_47 rfl (by decide) ?_
        refine mw_iadd (pc' := 49) dX1_canMoveSide_48 rfl ?_
        refine mw_goto (tgt := 60) dX1_canMoveSide_49 (by decide) ?_
        refine mw_istore (pc' := 62) dX1_canMoveSide_60 rfl (by decide) ?_
        show mW _ _ _ _ _ [some (.inr (some a)), some (.inl v1), some (.inl v2), some (.inr (some (a + 7))), some (.inl ((mI h a 1) - 1)), some (.inl (v1 + 2)), none] _ _ _
        refine mw_aload_n (pc' := 63) dX1_canMoveSide_62 rfl rfl ?_
        refine mw_iload_n (pc' := 64) dX1_canMoveSide_63 rfl rfl ?_
        obtain ⟨o44, K⟩ := K
        refine mw_ialdL (pc' := 65) dX1_canMoveSide_64 rfl (skBT_1_7 hS ta) (skBL_1_7 hS ta) o44 ?_
        refine mw_iload_n (pc' := 66) dX1_canMoveSide_65 rfl rfl ?_
        refine mw_iadd (pc' := 67) dX1_canMoveSide_66 rfl ?_
        refine mw_istore (pc' := 69) dX1_canMoveSide_67 rfl (by decide) ?_
        show mW _ _ _ _ _ [some (.inr (some a)), some (.inl v1), some (.inl v2), some (.inr (some (a + 7))), some (.inl ((mI h a 1) - 1)), some (.inl (v1 + 2)), some (.inl ((mI h (a + 7) v1.toNatClampNeg) + v2))] _ _ _
        refine mw_iload (pc' := 71) dX1_canMoveSide_69 rfl rfl ?_
        refine mw_iconst (pc' := 72) (v := 0) dX1_canMoveSide_71 rfl (by decide) ?_
        refine mw_bipush (pc' := 74) (v := 32) dX1_canMoveSide_72 rfl (by decide) ?_
        refine mw_callS (pc' := 77) (b' := (0, 0)) (b1 := b) (av := [.inl ((mI h (a + 7) v1.toNatClampNeg) + v2), .inl 0, .inl 32]) (rest := []) dX1_canMoveSide_74 rfl lkX1_44 rfl rfl (Nat.le_of_ble_eq_true rfl) ⟨Nat.le_of_eq (Nat.zero_add _), Nat.le_of_eq (Nat.zero_add _)⟩ ?_
        refine pX11_within ?_
        refine mw_if_eq (pc' := 80) (tgt := 102) dX1_canMoveSide_77 rfl (by decide) (fun c51 => ?_) (fun c51 => ?_)
        · replace K := K.1 c51
          refine mw_iconst (pc' := 103) (v := 0) dX1_canMoveSide_102 rfl (by decide) ?_
          exact mw_iret dX1_canMoveSide_103 rfl (by decide) K
        · replace K := K.2 c51
          refine mw_aload_n (pc' := 81) dX1_canMoveSide_80 rfl rfl ?_
          refine mw_iload (pc' := 83) dX1_canMoveSide_81 rfl rfl ?_
          obtain ⟨o45, K⟩ := K
          refine mw_ialdL (pc' := 84) dX1_canMoveSide_83 rfl (skBT_1_7 hS ta) (skBL_1_7 hS ta) o45 ?_
          refine mw_iload (pc' := 86) dX1_canMoveSide_84 rfl rfl ?_
          refine mw_icmp_eq (pc' := 89) (tgt := 102) dX1_canMoveSide_86 rfl (by decide) (fun c50 => ?_) (fun c50 => ?_)
          · replace K := K.1 c50
            refine mw_iconst (pc' := 103) (v := 0) dX1_canMoveSide_102 rfl (by decide) ?_
            exact mw_iret dX1_canMoveSide_103 rfl (by decide) K
          · replace K := K.2 c50
            refine mw_aload_n (pc' := 90) dX1_canMoveSide_89 rfl rfl ?_
            refine mw_iload (pc' := 92) dX1_canMoveSide_90 rfl rfl ?_
            obtain ⟨o46, K⟩ := K
            refine mw_ialdL (pc' := 93) dX1_canMoveSide_92 rfl (skBT_1_7 hS ta) (skBL_1_7 hS ta) o46 ?_
            refine mw_iload (pc' := 95) dX1_canMoveSide_93 rfl rfl ?_
            have J48 : ∀ w47 : Int32, w47 = (if (mI h (a + 7) (v1 + 2).toNatClampNeg) = ((mI h (a + 7) v1.toNatClampNeg) + v2) then 0 else 1) → mW G kX1_canMoveSide (d + 1) b 103 [some (.inr (some a)), some (.inl v1), some (.inl v2), some (.inr (some (a + 7))), some (.inl ((mI h a 1) - 1)), some (.inl (v1 + 2)), some (.inl ((mI h (a + 7) v1.toNatClampNeg) + v2))] ([.inl w47]) h Q := by
              intro w47 ew47
              replace K := K w47 ew47
              exact mw_iret dX1_canMoveSide_103 rfl (m_boolN (by rw [ew47]; exact (m_boolI m_bool0 m_bool1))) K
            refine mw_icmp_eq (pc' := 98) (tgt := 102) dX1_canMoveSide_95 rfl (by decide) (fun c49 => ?_) (fun c49 => ?_)
            · refine mw_iconst (pc' := 103) (v := 0) dX1_canMoveSide_102 rfl (by decide) ?_
              exact J48 _ (by rw [if_pos c49])
            · refine mw_iconst (pc' := 99) (v := 1) dX1_canMoveSide_98 rfl (by decide) ?_
              refine mw_goto (tgt := 103) dX1_canMoveSide_99 (by decide) ?_
              exact J48 _ (by rw [if_neg c49])
    · replace K := K.2 c70
      refine mw_iload_n (pc' := 23) dX1_canMoveSide_22 rfl rfl ?_
      refine mw_iconst (pc' := 24) (v := 1) dX1_canMoveSide_23 rfl (by decide) ?_
      refine mw_isub (pc' := 25) dX1_canMoveSide_24 rfl ?_
      refine mw_goto (tgt := 34) dX1_canMoveSide_25 (by decide) ?_
      refine mw_istore (pc' := 36) dX1_canMoveSide_34 rfl (by decide) ?_
      show mW _ _ _ _ _ [some (.inr (some a)), some (.inl v1), some (.inl v2), some (.inr (some (a + 7))), some (.inl (v1 - 1)), none, none] _ _ _
      refine mw_iload_n (pc' := 37) dX1_canMoveSide_36 rfl rfl ?_
      refine mw_iconst (pc' := 38) (v := 2) dX1_canMoveSide_37 rfl (by decide) ?_
      refine mw_iadd (pc' := 39) dX1_canMoveSide_38 rfl ?_
      refine mw_aload_n (pc' := 40) dX1_canMoveSide_39 rfl rfl ?_
      refine mw_getI (pc' := 43) dX1_canMoveSide_40 rfl flX1_32 rfl (ta) ?_
      refine mw_icmp_ge (pc' := 46) (tgt := 52) dX1_canMoveSide_43 rfl (by decide) (fun c69 => ?_) (fun c69 => ?_)
      · replace K := K.1 c69
        refine mw_iload_n (pc' := 53) dX1_canMoveSide_52 rfl rfl ?_
        refine mw_iconst (pc' := 54) (v := 2) dX1_canMoveSide_53 rfl (by decide) ?_
        refine mw_iadd (pc' := 55) dX1_canMoveSide_54 rfl ?_
        refine mw_aload_n (pc' := 56) dX1_canMoveSide_55 rfl rfl ?_
        refine mw_getI (pc' := 59) dX1_canMoveSide_56 rfl flX1_32 rfl (ta) ?_
        refine mw_isub (pc' := 60) dX1_canMoveSide_59 rfl ?_
        refine mw_istore (pc' := 62) dX1_canMoveSide_60 rfl (by decide) ?_
        show mW _ _ _ _ _ [some (.inr (some a)), some (.inl v1), some (.inl v2), some (.inr (some (a + 7))), some (.inl (v1 - 1)), some (.inl ((v1 + 2) - (mI h a 1))), none] _ _ _
        refine mw_aload_n (pc' := 63) dX1_canMoveSide_62 rfl rfl ?_
        refine mw_iload_n (pc' := 64) dX1_canMoveSide_63 rfl rfl ?_
        obtain ⟨o53, K⟩ := K
        refine mw_ialdL (pc' := 65) dX1_canMoveSide_64 rfl (skBT_1_7 hS ta) (skBL_1_7 hS ta) o53 ?_
        refine mw_iload_n (pc' := 66) dX1_canMoveSide_65 rfl rfl ?_
        refine mw_iadd (pc' := 67) dX1_canMoveSide_66 rfl ?_
        refine mw_istore (pc' := 69) dX1_canMoveSide_67 rfl (by decide) ?_
        show mW _ _ _ _ _ [some (.inr (some a)), some (.inl v1), some (.inl v2), some (.inr (some (a + 7))), some (.inl (v1 - 1)), some (.inl ((v1 + 2) - (mI h a 1))), some (.inl ((mI h (a + 7) v1.toNatClampNeg) + v2))] _ _ _
        refine mw_iload (pc' := 71) dX1_canMoveSide_69 rfl rfl ?_
        refine mw_iconst (pc' := 72) (v := 0) dX1_canMoveSide_71 rfl (by decide) ?_
        refine mw_bipush (pc' := 74) (v := 32) dX1_canMoveSide_72 rfl (by decide) ?_
        refine mw_callS (pc' := 77) (b' := (0, 0)) (b1 := b) (av := [.inl ((mI h (a + 7) v1.toNatClampNeg) + v2), .inl 0, .inl 32]) (rest := []) dX1_canMoveSide_74 rfl lkX1_44 rfl rfl (Nat.le_of_ble_eq_true rfl) ⟨Nat.le_of_eq (Nat.zero_add _), Nat.le_of_eq (Nat.zero_add _)⟩ ?_
        refine pX11_within ?_
        refine mw_if_eq (pc' := 80) (tgt := 102) dX1_canMoveSide_77 rfl (by decide) (fun c60 => ?_) (fun c60 => ?_)
        · replace K := K.1 c60
          refine mw_iconst (pc' := 103) (v := 0) dX1_canMoveSide_102 rfl (by decide) ?_
          exact mw_iret dX1_canMoveSide_103 rfl (by decide) K
        · replace K := K.2 c60
          refine mw_aload_n (pc' := 81) dX1_canMoveSide_80 rfl rfl ?_
          refine mw_iload (pc' := 83) dX1_canMoveSide_81 rfl rfl ?_
          obtain ⟨o54, K⟩ := K
          refine mw_ialdL (pc' := 84) dX1_canMoveSide_83 rfl (skBT_1_7 hS ta) (skBL_1_7 hS ta) o54 ?_
          refine mw_iload (pc' := 86) dX1_canMoveSide_84 rfl rfl ?_
          refine mw_icmp_eq (pc' := 89) (tgt := 102) dX1_canMoveSide_86 rfl (by decide) (fun c59 => ?_) (fun c59 => ?_)
          · replace K := K.1 c59
            refine mw_iconst (pc' := 103) (v := 0) dX1_canMoveSide_102 rfl (by decide) ?_
            exact mw_iret dX1_canMoveSide_103 rfl (by decide) K
          · replace K := K.2 c59
            refine mw_aload_n (pc' := 90) dX1_canMoveSide_89 rfl rfl ?_
            refine mw_iload (pc' := 92) dX1_canMoveSide_90 rfl rfl ?_
            obtain ⟨o55, K⟩ := K
            refine mw_ialdL (pc' := 93) dX1_canMoveSide_92 rfl (skBT_1_7 hS ta) (skBL_1_7 hS ta) o55 ?_
            refine mw_iload (pc' := 95) dX1_canMoveSide_93 rfl rfl ?_
            have J57 : ∀ w56 : Int32, w56 = (if (mI h (a + 7) ((v1 + 2) - (mI h a 1)).toNatClampNeg) = ((mI h (a + 7) v1.toNatClampNeg) + v2) then 0 else 1) → mW G kX1_canMoveSide (d + 1) b 103 [some (.inr (some a)), some (.inl v1), some (.inl v2), some (.inr (some (a + 7))), some (.inl (v1 - 1)), some (.inl ((v1 + 2) - (mI h a 1))), some (.inl ((mI h (a + 7) v1.toNatClampNeg) + v2))] ([.inl w56]) h Q := by
              intro w56 ew56
              replace K := K w56 ew56
              exact mw_iret dX1_canMoveSide_103 rfl (m_boolN (by rw [ew56]; exact (m_boolI m_bool0 m_bool1))) K
            refine mw_icmp_eq (pc' := 98) (tgt := 102) dX1_canMoveSide_95 rfl (by decide) (fun c58 => ?_) (fun c58 => ?_)
            · refine mw_iconst (pc' := 103) (v := 0) dX1_canMoveSide_102 rfl (by decide) ?_
              exact J57 _ (by rw [if_pos c58])
            · refine mw_iconst (pc' := 99) (v := 1) dX1_canMoveSide_98 rfl (by decide) ?_
              refine mw_goto (tgt := 103) dX1_canMoveSide_99 (by decide) ?_
              exact J57 _ (by rw [if_neg c58])
      · replace K := K.2 c69
        refine mw_iload_n (pc' := 47) dX1_canMoveSide_46 rfl rfl ?_
        refine mw_iconst (pc' := 48) (v := 2) dX1_canMoveSide_47 rfl (by decide) ?_
        refine mw_iadd (pc' := 49) dX1_canMoveSide_48 rfl ?_
        refine mw_goto (tgt := 60) dX1_canMoveSide_49 (by decide) ?_
        refine mw_istore (pc' := 62) dX1_canMoveSide_60 rfl (by decide) ?_
        show mW _ _ _ _ _ [some (.inr (some a)), some (.inl v1), some (.inl v2), some (.inr (some (a + 7))), some (.inl (v1 - 1)), some (.inl (v1 + 2)), none] _ _ _
        refine mw_aload_n (pc' := 63) dX1_canMoveSide_62 rfl rfl ?_
        refine mw_iload_n (pc' := 64) dX1_canMoveSide_63 rfl rfl ?_
        obtain ⟨o61, K⟩ := K
        refine mw_ialdL (pc' := 65) dX1_canMoveSide_64 rfl (skBT_1_7 hS ta) (skBL_1_7 hS ta) o61 ?_
        refine mw_iload_n (pc' := 66) dX1_canMoveSide_65 rfl rfl ?_
        refine mw_iadd (pc' := 67) dX1_canMoveSide_66 rfl ?_
        refine mw_istore (pc' := 69) dX1_canMoveSide_67 rfl (by decide) ?_
        show mW _ _ _ _ _ [some (.inr (some a)), some (.inl v1), some (.inl v2), some (.inr (some (a + 7))), some (.inl (v1 - 1)), some (.inl (v1 + 2)), some (.inl ((mI h (a + 7) v1.toNatClampNeg) + v2))] _ _ _
        refine mw_iload (pc' := 71) dX1_canMoveSide_69 rfl rfl ?_
        refine mw_iconst (pc' := 72) (v := 0) dX1_canMoveSide_71 rfl (by decide) ?_
        refine mw_bipush (pc' := 74) (v := 32) dX1_canMoveSide_72 rfl (by decide) ?_
        refine mw_callS (pc' := 77) (b' := (0, 0)) (b1 := b) (av := [.inl ((mI h (a + 7) v1.toNatClampNeg) + v2), .inl 0, .inl 32]) (rest := []) dX1_canMoveSide_74 rfl lkX1_44 rfl rfl (Nat.le_of_ble_eq_true rfl) ⟨Nat.le_of_eq (Nat.zero_add _), Nat.le_of_eq (Nat.zero_add _)⟩ ?_
        refine pX11_within ?_
        refine mw_if_eq (pc' := 80) (tgt := 102) dX1_canMoveSide_77 rfl (by decide) (fun c68 => ?_) (fun c68 => ?_)
        · replace K := K.1 c68
          refine mw_iconst (pc' := 103) (v := 0) dX1_canMoveSide_102 rfl (by decide) ?_
          exact mw_iret dX1_canMoveSide_103 rfl (by decide) K
        · replace K := K.2 c68
          refine mw_aload_n (pc' := 81) dX1_canMoveSide_80 rfl rfl ?_
          refine mw_iload (pc' := 83) dX1_canMoveSide_81 rfl rfl ?_
          obtain ⟨o62, K⟩ := K
          refine mw_ialdL (pc' := 84) dX1_canMoveSide_83 rfl (skBT_1_7 hS ta) (skBL_1_7 hS ta) o62 ?_
          refine mw_iload (pc' := 86) dX1_canMoveSide_84 rfl rfl ?_
          refine mw_icmp_eq (pc' := 89) (tgt := 102) dX1_canMoveSide_86 rfl (by decide) (fun c67 => ?_) (fun c67 => ?_)
          · replace K := K.1 c67
            refine mw_iconst (pc' := 103) (v := 0) dX1_canMoveSide_102 rfl (by decide) ?_
            exact mw_iret dX1_canMoveSide_103 rfl (by decide) K
          · replace K := K.2 c67
            refine mw_aload_n (pc' := 90) dX1_canMoveSide_89 rfl rfl ?_
            refine mw_iload (pc' := 92) dX1_canMoveSide_90 rfl rfl ?_
            obtain ⟨o63, K⟩ := K
            refine mw_ialdL (pc' := 93) dX1_canMoveSide_92 rfl (skBT_1_7 hS ta) (skBL_1_7 hS ta) o63 ?_
            refine mw_iload (pc' := 95) dX1_canMoveSide_93 rfl rfl ?_
            have J65 : ∀ w64 : Int32, w64 = (if (mI h (a + 7) (v1 + 2).toNatClampNeg) = ((mI h (a + 7) v1.toNatClampNeg) + v2) then 0 else 1) → mW G kX1_canMoveSide (d + 1) b 103 [some (.inr (some a)), some (.inl v1), some (.inl v2), some (.inr (some (a + 7))), some (.inl (v1 - 1)), some (.inl (v1 + 2)), some (.inl ((mI h (a + 7) v1.toNatClampNeg) + v2))] ([.inl w64]) h Q := by
              intro w64 ew64
              replace K := K w64 ew64
              exact mw_iret dX1_canMoveSide_103 rfl (m_boolN (by rw [ew64]; exact (m_boolI m_bool0 m_bool1))) K
            refine mw_icmp_eq (pc' := 98) (tgt := 102) dX1_canMoveSide_95 rfl (by decide) (fun c66 => ?_) (fun c66 => ?_)
            · refine mw_iconst (pc' := 103) (v := 0) dX1_canMoveSide_102 rfl (by decide) ?_
              exact J65 _ (by rw [if_pos c66])
            · refine mw_iconst (pc' := 99) (v := 1) dX1_canMoveSide_98 rfl (by decide) ?_
              refine mw_goto (tgt := 103) dX1_canMoveSide_99 (by decide) ?_
              exact J65 _ (by rw [if_neg c66])

set_option maxRecDepth 100000 in
set_option maxHeartbeats 4000000 in
theorem qX1_drawLand {G : mG} {d : Nat} {b : Nat × Nat} {h : mH} {Q : Option mV → mH → Prop} (a : Nat) (ta : mT h a = 2) (hS : mSk h)
    (K : mW G kX1_drawLand (d + 2) b 2 [some (.inr (some a)), some (.inl 0), none] [] h Q) : mC G kX1_drawLand (d + 2) b [.inr (some a)] h Q := by
  refine mC_in rfl (Nat.le_of_ble_eq_true rfl) ?_
  show mW _ _ _ _ _ [some (.inr (some a)), none, none] _ _ _
  refine mw_iconst (pc' := 1) (v := 0) dX1_drawLand_0 rfl (by decide) ?_
  refine mw_istore_n (pc' := 2) dX1_drawLand_1 rfl (by decide) ?_
  show mW _ _ _ _ _ [some (.inr (some a)), some (.inl 0), none] _ _ _
  exact K

set_option maxRecDepth 100000 in
set_option maxHeartbeats 4000000 in
theorem qX1_drawLand_2 {G : mG} {d : Nat} {b : Nat × Nat} {h : mH} {Q : Option mV → mH → Prop} (a0 : Nat) (v1 : Int32) (ta0 : mT h a0 = 2) (hS : mSk h)
    (K : (((mI h a0 1) ≤ v1 → Q none h) ∧ (¬ ((mI h a0 1) ≤ v1) → ∀ w1 : Int32, w1 = (if (mI h a0 1) ≤ (v1 + 1) then 0 else (v1 + 1)) → ((¬ (v1 &&& 1) = 1 → vp_in v1 16 ∧ vp_in w1 16 ∧ vp_in v1 16 ∧ mC G kX1_turnBeyond (d + 1) (0, 0) [.inr (some (a0 + 2)), .inl (mI h (a0 + 6) v1.toNatClampNeg), .inl (mI h (a0 + 6) w1.toNatClampNeg), .inl (mI h (a0 + 7) v1.toNatClampNeg)] h (fun r h5 => r = none ∧ mSk h5 ∧ mT h5 a0 = 2 ∧ mW G kX1_drawLand (d + 2) b 2 [some (.inr (some a0)), some (.inl (v1 + 1)), none] [] h5 Q)) ∧ ((v1 &&& 1) = 1 → vp_in v1 16 ∧ vp_in w1 16 ∧ vp_in v1 16 ∧ mC G kX1_turnBeyond (d + 1) (0, 0) [.inr (some (a0 + 1)), .inl (mI h (a0 + 7) v1.toNatClampNeg), .inl (mI h (a0 + 7) w1.toNatClampNeg), .inl (mI h (a0 + 6) v1.toNatClampNeg)] h (fun r h9 => r = none ∧ mSk h9 ∧ mT h9 a0 = 2 ∧ mW G kX1_drawLand (d + 2) b 2 [some (.inr (some a0)), some (.inl (v1 + 1)), none] [] h9 Q)))))) : mW G kX1_drawLand (d + 2) b 2 [some (.inr (some a0)), some (.inl v1), none] [] h Q := by
  refine mw_iload_n (pc' := 3) dX1_drawLand_2 rfl rfl ?_
  refine mw_aload_n (pc' := 4) dX1_drawLand_3 rfl rfl ?_
  refine mw_getI (pc' := 7) dX1_drawLand_4 rfl flX1_32 rfl (ta0) ?_
  refine mw_icmp_ge (pc' := 10) (tgt := 94) dX1_drawLand_7 rfl (by decide) (fun c13 => ?_) (fun c13 => ?_)
  · replace K := K.1 c13
    exact mw_ret dX1_drawLand_94 rfl K
  · replace K := K.2 c13
    refine mw_iload_n (pc' := 11) dX1_drawLand_10 rfl rfl ?_
    refine mw_iconst (pc' := 12) (v := 1) dX1_drawLand_11 rfl (by decide) ?_
    refine mw_iadd (pc' := 13) dX1_drawLand_12 rfl ?_
    refine mw_aload_n (pc' := 14) dX1_drawLand_13 rfl rfl ?_
    refine mw_getI (pc' := 17) dX1_drawLand_14 rfl flX1_32 rfl (ta0) ?_
    have J11 : ∀ w1 : Int32, w1 = (if (mI h a0 1) ≤ (v1 + 1) then 0 else (v1 + 1)) → mW G kX1_drawLand (d + 2) b 27 [some (.inr (some a0)), some (.inl v1), none] ([.inl w1]) h Q := by
      intro w1 ew1
      replace K := K w1 ew1
      refine mw_istore_n (pc' := 28) dX1_drawLand_27 rfl (by decide) ?_
      show mW _ _ _ _ _ [some (.inr (some a0)), some (.inl v1), some (.inl w1)] _ _ _
      refine mw_iload_n (pc' := 29) dX1_drawLand_28 rfl rfl ?_
      refine mw_iconst (pc' := 30) (v := 1) dX1_drawLand_29 rfl (by decide) ?_
      refine mw_iand (pc' := 31) dX1_drawLand_30 rfl ?_
      refine mw_iconst (pc' := 32) (v := 1) dX1_drawLand_31 rfl (by decide) ?_
      refine mw_icmp_ne (pc' := 35) (tgt := 63) dX1_drawLand_32 rfl (by decide) (fun c10 => ?_) (fun c10 => ?_)
      · replace K := K.1 c10
        refine mw_aload_n (pc' := 64) dX1_drawLand_63 rfl rfl ?_
        refine mw_getR (pc' := 67) dX1_drawLand_64 rfl flX1_15 rfl (ta0) ?_
        rw [skBR_1_6 hS ta0]
        refine mw_aload_n (pc' := 68) dX1_drawLand_67 rfl rfl ?_
        refine mw_getR (pc' := 71) dX1_drawLand_68 rfl flX1_35 rfl (ta0) ?_
        rw [skBR_1_2 hS ta0]
        refine mw_iload_n (pc' := 72) dX1_drawLand_71 rfl rfl ?_
        obtain ⟨o2, K⟩ := K
        refine mw_ialdL (pc' := 73) dX1_drawLand_72 rfl (skBT_1_6 hS ta0) (skBL_1_6 hS ta0) o2 ?_
        refine mw_aload_n (pc' := 74) dX1_drawLand_73 rfl rfl ?_
        refine mw_getR (pc' := 77) dX1_drawLand_74 rfl flX1_35 rfl (ta0) ?_
        rw [skBR_1_2 hS ta0]
        refine mw_iload_n (pc' := 78) dX1_drawLand_77 rfl rfl ?_
        obtain ⟨o3, K⟩ := K
        refine mw_ialdL (pc' := 79) dX1_drawLand_78 rfl (skBT_1_6 hS ta0) (skBL_1_6 hS ta0) o3 ?_
        refine mw_aload_n (pc' := 80) dX1_drawLand_79 rfl rfl ?_
        refine mw_getR (pc' := 83) dX1_drawLand_80 rfl flX1_38 rfl (ta0) ?_
        rw [skBR_1_3 hS ta0]
        refine mw_iload_n (pc' := 84) dX1_drawLand_83 rfl rfl ?_
        obtain ⟨o4, K⟩ := K
        refine mw_ialdL (pc' := 85) dX1_drawLand_84 rfl (skBT_1_7 hS ta0) (skBL_1_7 hS ta0) o4 ?_
        refine mw_callS (pc' := 88) (b' := (0, 0)) (b1 := b) (av := [.inr (some (a0 + 2)), .inl (mI h (a0 + 6) v1.toNatClampNeg), .inl (mI h (a0 + 6) w1.toNatClampNeg), .inl (mI h (a0 + 7) v1.toNatClampNeg)]) (rest := []) dX1_drawLand_85 rfl lkX1_48 rfl rfl (Nat.le_of_ble_eq_true rfl) ⟨Nat.le_of_eq (Nat.zero_add _), Nat.le_of_eq (Nat.zero_add _)⟩ ?_
        refine mC_mono (fun r h5 hr => ?_) K
        obtain ⟨rfl, hS, ta0, K⟩ := hr
        show mW _ _ _ _ _ _ [] _ _
        refine mw_iinc (pc' := 91) (v := v1 + 1) dX1_drawLand_88 rfl (by decide) rfl rfl ?_
        show mW _ _ _ _ _ [some (.inr (some a0)), some (.inl (v1 + 1)), some (.inl w1)] _ _ _
        refine mw_goto (tgt := 2) dX1_drawLand_91 (by decide) ?_
        refine mw_weak (ls' := [some (.inr (some a0)), some (.inl (v1 + 1)), none]) ?_ ?_
        · intro i v hv; match i, hv with
          | 0, hv => exact hv
          | 1, hv => exact hv
          | 2, hv => cases hv
          | n + 3, hv => cases hv
        exact K
      · replace K := K.2 c10
        refine mw_aload_n (pc' := 36) dX1_drawLand_35 rfl rfl ?_
        refine mw_getR (pc' := 39) dX1_drawLand_36 rfl flX1_9 rfl (ta0) ?_
        rw [skBR_1_5 hS ta0]
        refine mw_aload_n (pc' := 40) dX1_drawLand_39 rfl rfl ?_
        refine mw_getR (pc' := 43) dX1_drawLand_40 rfl flX1_38 rfl (ta0) ?_
        rw [skBR_1_3 hS ta0]
        refine mw_iload_n (pc' := 44) dX1_drawLand_43 rfl rfl ?_
        obtain ⟨o6, K⟩ := K
        refine mw_ialdL (pc' := 45) dX1_drawLand_44 rfl (skBT_1_7 hS ta0) (skBL_1_7 hS ta0) o6 ?_
        refine mw_aload_n (pc' := 46) dX1_drawLand_45 rfl rfl ?_
        refine mw_getR (pc' := 49) dX1_drawLand_46 rfl flX1_38 rfl (ta0) ?_
        rw [skBR_1_3 hS ta0]
        refine mw_iload_n (pc' := 50) dX1_drawLand_49 rfl rfl ?_
        obtain ⟨o7, K⟩ := K
        refine mw_ialdL (pc' := 51) dX1_drawLand_50 rfl (skBT_1_7 hS ta0) (skBL_1_7 hS ta0) o7 ?_
        refine mw_aload_n (pc' := 52) dX1_drawLand_51 rfl rfl ?_
        refine mw_getR (pc' := 55) dX1_drawLand_52 rfl flX1_35 rfl (ta0) ?_
        rw [skBR_1_2 hS ta0]
        refine mw_iload_n (pc' := 56) dX1_drawLand_55 rfl rfl ?_
        obtain ⟨o8, K⟩ := K
        refine mw_ialdL (pc' := 57) dX1_drawLand_56 rfl (skBT_1_6 hS ta0) (skBL_1_6 hS ta0) o8 ?_
        refine mw_callS (pc' := 60) (b' := (0, 0)) (b1 := b) (av := [.inr (some (a0 + 1)), .inl (mI h (a0 + 7) v1.toNatClampNeg), .inl (mI h (a0 + 7) w1.toNatClampNeg), .inl (mI h (a0 + 6) v1.toNatClampNeg)]) (rest := []) dX1_drawLand_57 rfl lkX1_48 rfl rfl (Nat.le_of_ble_eq_true rfl) ⟨Nat.le_of_eq (Nat.zero_add _), Nat.le_of_eq (Nat.zero_add _)⟩ ?_
        refine mC_mono (fun r h9 hr => ?_) K
        obtain ⟨rfl, hS, ta0, K⟩ := hr
        show mW _ _ _ _ _ _ [] _ _
        refine mw_goto (tgt := 88) dX1_drawLand_60 (by decide) ?_
        refine mw_iinc (pc' := 91) (v := v1 + 1) dX1_drawLand_88 rfl (by decide) rfl rfl ?_
        show mW _ _ _ _ _ [some (.inr (some a0)), some (.inl (v1 + 1)), some (.inl w1)] _ _ _
        refine mw_goto (tgt := 2) dX1_drawLand_91 (by decide) ?_
        refine mw_weak (ls' := [some (.inr (some a0)), some (.inl (v1 + 1)), none]) ?_ ?_
        · intro i v hv; match i, hv with
          | 0, hv => exact hv
          | 1, hv => exact hv
          | 2, hv => cases hv
          | n + 3, hv => cases hv
        exact K
    refine mw_icmp_ge (pc' := 20) (tgt := 26) dX1_drawLand_17 rfl (by decide) (fun c12 => ?_) (fun c12 => ?_)
    · refine mw_iconst (pc' := 27) (v := 0) dX1_drawLand_26 rfl (by decide) ?_
      exact J11 _ (by rw [if_pos c12])
    · refine mw_iload_n (pc' := 21) dX1_drawLand_20 rfl rfl ?_
      refine mw_iconst (pc' := 22) (v := 1) dX1_drawLand_21 rfl (by decide) ?_
      refine mw_iadd (pc' := 23) dX1_drawLand_22 rfl ?_
      refine mw_goto (tgt := 27) dX1_drawLand_23 (by decide) ?_
      exact J11 _ (by rw [if_neg c12])

set_option maxRecDepth 100000 in
set_option maxHeartbeats 4000000 in
theorem qX1_turnBeyond {G : mG} {d : Nat} {b : Nat × Nat} {h : mH} {Q : Option mV → mH → Prop} (a1 : Nat) (v2 : Int32) (v3 : Int32) (v4 : Int32) (ta1 : mT h a1 = 100) (hS : mSk h)
    (K : ∀ w1 : Int32, w1 = (if 32 ≤ v4 then 0 else (m_shl (-1) v4)) → mW G kX1_turnBeyond (d + 1) b 38 [some (.inr (some a1)), none, none, none, some (.inl w1), some (.inl (f_min 32 (f_max v2 v3))), some (.inl (f_max 0 (f_min v2 v3)))] [] h Q) : mC G kX1_turnBeyond (d + 1) b [.inr (some a1), .inl v2, .inl v3, .inl v4] h Q := by
  refine mC_in rfl (Nat.le_of_ble_eq_true rfl) ?_
  show mW _ _ _ _ _ [some (.inr (some a1)), some (.inl v2), some (.inl v3), some (.inl v4), none, none, none] _ _ _
  refine mw_iload_n (pc' := 1) dX1_turnBeyond_0 rfl rfl ?_
  refine mw_bipush (pc' := 3) (v := 32) dX1_turnBeyond_1 rfl (by decide) ?_
  have J2 : ∀ w1 : Int32, w1 = (if 32 ≤ v4 then 0 else (m_shl (-1) v4)) → mW G kX1_turnBeyond (d + 1) b 13 [some (.inr (some a1)), some (.inl v2), some (.inl v3), some (.inl v4), none, none, none] ([.inl w1]) h Q := by
    intro w1 ew1
    replace K := K w1 ew1
    refine mw_istore (pc' := 15) dX1_turnBeyond_13 rfl (by decide) ?_
    show mW _ _ _ _ _ [some (.inr (some a1)), some (.inl v2), some (.inl v3), some (.inl v4), some (.inl w1), none, none] _ _ _
    refine mw_bipush (pc' := 17) (v := 32) dX1_turnBeyond_15 rfl (by decide) ?_
    refine mw_iload_n (pc' := 18) dX1_turnBeyond_17 rfl rfl ?_
    refine mw_iload_n (pc' := 19) dX1_turnBeyond_18 rfl rfl ?_
    refine mw_mmax (pc' := 22) dX1_turnBeyond_19 rfl lkX1_52 (Nat.le_of_ble_eq_true rfl) ?_
    refine mw_mmin (pc' := 25) dX1_turnBeyond_22 rfl lkX1_58 (Nat.le_of_ble_eq_true rfl) ?_
    refine mw_istore (pc' := 27) dX1_turnBeyond_25 rfl (by decide) ?_
    show mW _ _ _ _ _ [some (.inr (some a1)), some (.inl v2), some (.inl v3), some (.inl v4), some (.inl w1), some (.inl (f_min 32 (f_max v2 v3))), none] _ _ _
    refine mw_iconst (pc' := 28) (v := 0) dX1_turnBeyond_27 rfl (by decide) ?_
    refine mw_iload_n (pc' := 29) dX1_turnBeyond_28 rfl rfl ?_
    refine mw_iload_n (pc' := 30) dX1_turnBeyond_29 rfl rfl ?_
    refine mw_mmin (pc' := 33) dX1_turnBeyond_30 rfl lkX1_58 (Nat.le_of_ble_eq_true rfl) ?_
    refine mw_mmax (pc' := 36) dX1_turnBeyond_33 rfl lkX1_52 (Nat.le_of_ble_eq_true rfl) ?_
    refine mw_istore (pc' := 38) dX1_turnBeyond_36 rfl (by decide) ?_
    show mW _ _ _ _ _ [some (.inr (some a1)), some (.inl v2), some (.inl v3), some (.inl v4), some (.inl w1), some (.inl (f_min 32 (f_max v2 v3))), some (.inl (f_max 0 (f_min v2 v3)))] _ _ _
    refine mw_weak (ls' := [some (.inr (some a1)), none, none, none, some (.inl w1), some (.inl (f_min 32 (f_max v2 v3))), some (.inl (f_max 0 (f_min v2 v3)))]) ?_ ?_
    · intro i v hv; match i, hv with
      | 0, hv => exact hv
      | 1, hv => cases hv
      | 2, hv => cases hv
      | 3, hv => cases hv
      | 4, hv => exact hv
      | 5, hv => exact hv
      | 6, hv => exact hv
      | n + 7, hv => cases hv
    exact K
  refine mw_icmp_ge (pc' := 6) (tgt := 12) dX1_turnBeyond_3 rfl (by decide) (fun c3 => ?_) (fun c3 => ?_)
  · refine mw_iconst (pc' := 13) (v := 0) dX1_turnBeyond_12 rfl (by decide) ?_
    exact J2 _ (by rw [if_pos c3])
  · refine mw_iconst (pc' := 7) (v := (-1)) dX1_turnBeyond_6 rfl (by decide) ?_
    refine mw_iload_n (pc' := 8) dX1_turnBeyond_7 rfl rfl ?_
    refine mw_ishlM (pc' := 9) dX1_turnBeyond_8 rfl ?_
    refine mw_goto (tgt := 13) dX1_turnBeyond_9 (by decide) ?_
    exact J2 _ (by rw [if_neg c3])

set_option maxRecDepth 100000 in
set_option maxHeartbeats 4000000 in
theorem qX1_turnBeyond_38 {G : mG} {d : Nat} {b : Nat × Nat} {h : mH} {Q : Option mV → mH → Prop} (a0 : Nat) (v4 : Int32) (v5 : Int32) (v6 : Int32) (ta0 : mT h a0 = 100) (hS : mSk h)
    (K : ((v5 ≤ v6 → Q none h) ∧ (¬ (v5 ≤ v6) → vp_in v6 (mL h a0) ∧ vp_in v6 (mL h a0) ∧ ∀ h3, h3 = mSI h a0 v6.toNatClampNeg ((mI h a0 v6.toNatClampNeg) ^^^ v4) → mW G kX1_turnBeyond (d + 1) b 38 [some (.inr (some a0)), none, none, none, some (.inl v4), some (.inl v5), some (.inl (v6 + 1))] [] h3 Q))) : mW G kX1_turnBeyond (d + 1) b 38 [some (.inr (some a0)), none, none, none, some (.inl v4), some (.inl v5), some (.inl v6)] [] h Q := by
  refine mw_iload (pc' := 40) dX1_turnBeyond_38 rfl rfl ?_
  refine mw_iload (pc' := 42) dX1_turnBeyond_40 rfl rfl ?_
  refine mw_icmp_ge (pc' := 45) (tgt := 60) dX1_turnBeyond_42 rfl (by decide) (fun c4 => ?_) (fun c4 => ?_)
  · replace K := K.1 c4
    exact mw_ret dX1_turnBeyond_60 rfl K
  · replace K := K.2 c4
    refine mw_aload_n (pc' := 46) dX1_turnBeyond_45 rfl rfl ?_
    refine mw_iload (pc' := 48) dX1_turnBeyond_46 rfl rfl ?_
    refine mw_dup2 (pc' := 49) dX1_turnBeyond_48 rfl ?_
    obtain ⟨o1, K⟩ := K
    refine mw_ialdL (pc' := 50) dX1_turnBeyond_49 rfl (ta0) (rfl) o1 ?_
    refine mw_iload (pc' := 52) dX1_turnBeyond_50 rfl rfl ?_
    refine mw_ixor (pc' := 53) dX1_turnBeyond_52 rfl ?_
    obtain ⟨o2, K⟩ := K
    refine mw_iastK (pc' := 54) dX1_turnBeyond_53 rfl (ta0) (rfl) o2 hS (fun h3 eh3 hS => ?_)
    replace K := K h3 eh3
    have ta0 : mT h3 a0 = 100 := by rw [eh3]; exact ta0
    refine mw_iinc (pc' := 57) (v := v6 + 1) dX1_turnBeyond_54 rfl (by decide) rfl rfl ?_
    show mW _ _ _ _ _ [some (.inr (some a0)), none, none, none, some (.inl v4), some (.inl v5), some (.inl (v6 + 1))] _ _ _
    refine mw_goto (tgt := 38) dX1_turnBeyond_57 (by decide) ?_
    exact K

set_option maxRecDepth 100000 in
set_option maxHeartbeats 4000000 in
theorem qX1_isLand {G : mG} {d : Nat} {b : Nat × Nat} {h : mH} {Q : Option mV → mH → Prop} (a : Nat) (v1 : Int32) (v2 : Int32) (ta : mT h a = 2) (hS : mSk h)
    (K : vp_in v2 32 ∧ ∀ w2 : Int32, w2 = (if ¬ ((m_ushr (mI h (a + 1) v2.toNatClampNeg) v1) &&& 1) = 1 then 0 else 1) → Q (some (.inl w2)) h) : mC G kX1_isLand d b [.inr (some a), .inl v1, .inl v2] h Q := by
  refine mC_in rfl (Nat.le_of_ble_eq_true rfl) ?_
  show mW _ _ _ _ _ [some (.inr (some a)), some (.inl v1), some (.inl v2)] _ _ _
  refine mw_aload_n (pc' := 1) dX1_isLand_0 rfl rfl ?_
  refine mw_getR (pc' := 4) dX1_isLand_1 rfl flX1_9 rfl (ta) ?_
  rw [skBR_1_5 hS ta]
  refine mw_iload_n (pc' := 5) dX1_isLand_4 rfl rfl ?_
  obtain ⟨o1, K⟩ := K
  refine mw_ialdL (pc' := 6) dX1_isLand_5 rfl (skBT_1_1 hS ta) (skBL_1_1 hS ta) o1 ?_
  refine mw_iload_n (pc' := 7) dX1_isLand_6 rfl rfl ?_
  refine mw_iushrM (pc' := 8) dX1_isLand_7 rfl ?_
  refine mw_iconst (pc' := 9) (v := 1) dX1_isLand_8 rfl (by decide) ?_
  refine mw_iand (pc' := 10) dX1_isLand_9 rfl ?_
  refine mw_iconst (pc' := 11) (v := 1) dX1_isLand_10 rfl (by decide) ?_
  have J3 : ∀ w2 : Int32, w2 = (if ¬ ((m_ushr (mI h (a + 1) v2.toNatClampNeg) v1) &&& 1) = 1 then 0 else 1) → mW G kX1_isLand d b 19 [some (.inr (some a)), some (.inl v1), some (.inl v2)] ([.inl w2]) h Q := by
    intro w2 ew2
    replace K := K w2 ew2
    exact mw_iret dX1_isLand_19 rfl (m_boolN (by rw [ew2]; exact (m_boolI m_bool0 m_bool1))) K
  refine mw_icmp_ne (pc' := 14) (tgt := 18) dX1_isLand_11 rfl (by decide) (fun c4 => ?_) (fun c4 => ?_)
  · refine mw_iconst (pc' := 19) (v := 0) dX1_isLand_18 rfl (by decide) ?_
    exact J3 _ (by rw [if_pos c4])
  · refine mw_iconst (pc' := 15) (v := 1) dX1_isLand_14 rfl (by decide) ?_
    refine mw_goto (tgt := 19) dX1_isLand_15 (by decide) ?_
    exact J3 _ (by rw [if_neg (fun z => z c4)])

set_option maxRecDepth 100000 in
set_option maxHeartbeats 4000000 in
theorem qX1_landBetween {G : mG} {d : Nat} {b : Nat × Nat} {h : mH} {Q : Option mV → mH → Prop} (a : Nat) (v1 : Int32) (v2 : Int32) (v3 : Int32) (v4 : Int32) (ta : mT h a = 2) (hS : mSk h)
    (K : ((¬ v2 = v4 → vp_in v2 32 ∧ vp_in v3 32 ∧ Q (some (.inl ((f_J6_bitCount_0f7a4 ((mI h (a + 1) v2.toNatClampNeg) &&& ((f_X11_span v1 v3) &&& (m_not (m_shl 1 v1))))) + (f_J6_bitCount_0f7a4 ((mI h (a + 2) v3.toNatClampNeg) &&& (((f_X11_span v2 v4) &&& (m_not (m_shl 1 v2))) &&& (m_not (m_shl 1 v4)))))))) h) ∧ (v2 = v4 → vp_in v2 32 ∧ vp_in v3 32 ∧ Q (some (.inl ((f_J6_bitCount_0f7a4 ((mI h (a + 1) v2.toNatClampNeg) &&& (((f_X11_span v1 v3) &&& (m_not (m_shl 1 v1))) &&& (m_not (m_shl 1 v3))))) + (f_J6_bitCount_0f7a4 ((mI h (a + 2) v3.toNatClampNeg) &&& (((f_X11_span v2 v4) &&& (m_not (m_shl 1 v2))) &&& (m_not (m_shl 1 v4)))))))) h))) : mC G kX1_landBetween (d + 1) b [.inr (some a), .inl v1, .inl v2, .inl v3, .inl v4] h Q := by
  refine mC_in rfl (Nat.le_of_ble_eq_true rfl) ?_
  show mW _ _ _ _ _ [some (.inr (some a)), some (.inl v1), some (.inl v2), some (.inl v3), some (.inl v4), none, none] _ _ _
  refine mw_iload_n (pc' := 1) dX1_landBetween_0 rfl rfl ?_
  refine mw_iload_n (pc' := 2) dX1_landBetween_1 rfl rfl ?_
  refine mw_callS (pc' := 5) (b' := (0, 0)) (b1 := b) (av := [.inl v1, .inl v3]) (rest := []) dX1_landBetween_2 rfl lkX1_61 rfl rfl (Nat.le_of_ble_eq_true rfl) ⟨Nat.le_of_eq (Nat.zero_add _), Nat.le_of_eq (Nat.zero_add _)⟩ ?_
  refine pX11_span ?_
  refine mw_iconst (pc' := 6) (v := 1) dX1_landBetween_5 rfl (by decide) ?_
  refine mw_iload_n (pc' := 7) dX1_landBetween_6 rfl rfl ?_
  refine mw_ishlM (pc' := 8) dX1_landBetween_7 rfl ?_
  refine mw_iconst (pc' := 9) (v := (-1)) dX1_landBetween_8 rfl (by decide) ?_
  refine mw_ixorM (pc' := 10) dX1_landBetween_9 rfl ?_
  refine mw_iand (pc' := 11) dX1_landBetween_10 rfl ?_
  refine mw_istore (pc' := 13) dX1_landBetween_11 rfl (by decide) ?_
  show mW _ _ _ _ _ [some (.inr (some a)), some (.inl v1), some (.inl v2), some (.inl v3), some (.inl v4), some (.inl ((f_X11_span v1 v3) &&& (m_not (m_shl 1 v1)))), none] _ _ _
  refine mw_iload_n (pc' := 14) dX1_landBetween_13 rfl rfl ?_
  refine mw_iload (pc' := 16) dX1_landBetween_14 rfl rfl ?_
  refine mw_icmp_ne (pc' := 19) (tgt := 29) dX1_landBetween_16 rfl (by decide) (fun c5 => ?_) (fun c5 => ?_)
  · replace K := K.1 c5
    refine mw_iload_n (pc' := 30) dX1_landBetween_29 rfl rfl ?_
    refine mw_iload (pc' := 32) dX1_landBetween_30 rfl rfl ?_
    refine mw_callS (pc' := 35) (b' := (0, 0)) (b1 := b) (av := [.inl v2, .inl v4]) (rest := []) dX1_landBetween_32 rfl lkX1_61 rfl rfl (Nat.le_of_ble_eq_true rfl) ⟨Nat.le_of_eq (Nat.zero_add _), Nat.le_of_eq (Nat.zero_add _)⟩ ?_
    refine pX11_span ?_
    refine mw_iconst (pc' := 36) (v := 1) dX1_landBetween_35 rfl (by decide) ?_
    refine mw_iload_n (pc' := 37) dX1_landBetween_36 rfl rfl ?_
    refine mw_ishlM (pc' := 38) dX1_landBetween_37 rfl ?_
    refine mw_iconst (pc' := 39) (v := (-1)) dX1_landBetween_38 rfl (by decide) ?_
    refine mw_ixorM (pc' := 40) dX1_landBetween_39 rfl ?_
    refine mw_iand (pc' := 41) dX1_landBetween_40 rfl ?_
    refine mw_iconst (pc' := 42) (v := 1) dX1_landBetween_41 rfl (by decide) ?_
    refine mw_iload (pc' := 44) dX1_landBetween_42 rfl rfl ?_
    refine mw_ishlM (pc' := 45) dX1_landBetween_44 rfl ?_
    refine mw_iconst (pc' := 46) (v := (-1)) dX1_landBetween_45 rfl (by decide) ?_
    refine mw_ixorM (pc' := 47) dX1_landBetween_46 rfl ?_
    refine mw_iand (pc' := 48) dX1_landBetween_47 rfl ?_
    refine mw_istore (pc' := 50) dX1_landBetween_48 rfl (by decide) ?_
    show mW _ _ _ _ _ [some (.inr (some a)), some (.inl v1), some (.inl v2), some (.inl v3), some (.inl v4), some (.inl ((f_X11_span v1 v3) &&& (m_not (m_shl 1 v1)))), some (.inl (((f_X11_span v2 v4) &&& (m_not (m_shl 1 v2))) &&& (m_not (m_shl 1 v4))))] _ _ _
    refine mw_aload_n (pc' := 51) dX1_landBetween_50 rfl rfl ?_
    refine mw_getR (pc' := 54) dX1_landBetween_51 rfl flX1_9 rfl (ta) ?_
    rw [skBR_1_5 hS ta]
    refine mw_iload_n (pc' := 55) dX1_landBetween_54 rfl rfl ?_
    obtain ⟨o1, K⟩ := K
    refine mw_ialdL (pc' := 56) dX1_landBetween_55 rfl (skBT_1_1 hS ta) (skBL_1_1 hS ta) o1 ?_
    refine mw_iload (pc' := 58) dX1_landBetween_56 rfl rfl ?_
    refine mw_iand (pc' := 59) dX1_landBetween_58 rfl ?_
    refine mw_callS (pc' := 62) (b' := (0, 0)) (b1 := b) (av := [.inl ((mI h (a + 1) v2.toNatClampNeg) &&& ((f_X11_span v1 v3) &&& (m_not (m_shl 1 v1))))]) (rest := []) dX1_landBetween_59 rfl lkX1_64 rfl rfl (Nat.le_of_ble_eq_true rfl) ⟨Nat.le_of_eq (Nat.zero_add _), Nat.le_of_eq (Nat.zero_add _)⟩ ?_
    refine pJ6_bitCount_0f7a4 ?_
    refine mw_aload_n (pc' := 63) dX1_landBetween_62 rfl rfl ?_
    refine mw_getR (pc' := 66) dX1_landBetween_63 rfl flX1_15 rfl (ta) ?_
    rw [skBR_1_6 hS ta]
    refine mw_iload_n (pc' := 67) dX1_landBetween_66 rfl rfl ?_
    obtain ⟨o2, K⟩ := K
    refine mw_ialdL (pc' := 68) dX1_landBetween_67 rfl (skBT_1_2 hS ta) (skBL_1_2 hS ta) o2 ?_
    refine mw_iload (pc' := 70) dX1_landBetween_68 rfl rfl ?_
    refine mw_iand (pc' := 71) dX1_landBetween_70 rfl ?_
    refine mw_callS (pc' := 74) (b' := (0, 0)) (b1 := b) (av := [.inl ((mI h (a + 2) v3.toNatClampNeg) &&& (((f_X11_span v2 v4) &&& (m_not (m_shl 1 v2))) &&& (m_not (m_shl 1 v4))))]) (rest := [.inl (f_J6_bitCount_0f7a4 ((mI h (a + 1) v2.toNatClampNeg) &&& ((f_X11_span v1 v3) &&& (m_not (m_shl 1 v1)))))]) dX1_landBetween_71 rfl lkX1_64 rfl rfl (Nat.le_of_ble_eq_true rfl) ⟨Nat.le_of_eq (Nat.zero_add _), Nat.le_of_eq (Nat.zero_add _)⟩ ?_
    refine pJ6_bitCount_0f7a4 ?_
    refine mw_iadd (pc' := 75) dX1_landBetween_74 rfl ?_
    exact mw_iret dX1_landBetween_75 rfl rfl K
  · replace K := K.2 c5
    refine mw_iload (pc' := 21) dX1_landBetween_19 rfl rfl ?_
    refine mw_iconst (pc' := 22) (v := 1) dX1_landBetween_21 rfl (by decide) ?_
    refine mw_iload_n (pc' := 23) dX1_landBetween_22 rfl rfl ?_
    refine mw_ishlM (pc' := 24) dX1_landBetween_23 rfl ?_
    refine mw_iconst (pc' := 25) (v := (-1)) dX1_landBetween_24 rfl (by decide) ?_
    refine mw_ixorM (pc' := 26) dX1_landBetween_25 rfl ?_
    refine mw_iand (pc' := 27) dX1_landBetween_26 rfl ?_
    refine mw_istore (pc' := 29) dX1_landBetween_27 rfl (by decide) ?_
    show mW _ _ _ _ _ [some (.inr (some a)), some (.inl v1), some (.inl v2), some (.inl v3), some (.inl v4), some (.inl (((f_X11_span v1 v3) &&& (m_not (m_shl 1 v1))) &&& (m_not (m_shl 1 v3)))), none] _ _ _
    refine mw_iload_n (pc' := 30) dX1_landBetween_29 rfl rfl ?_
    refine mw_iload (pc' := 32) dX1_landBetween_30 rfl rfl ?_
    refine mw_callS (pc' := 35) (b' := (0, 0)) (b1 := b) (av := [.inl v2, .inl v4]) (rest := []) dX1_landBetween_32 rfl lkX1_61 rfl rfl (Nat.le_of_ble_eq_true rfl) ⟨Nat.le_of_eq (Nat.zero_add _), Nat.le_of_eq (Nat.zero_add _)⟩ ?_
    refine pX11_span ?_
    refine mw_iconst (pc' := 36) (v := 1) dX1_landBetween_35 rfl (by decide) ?_
    refine mw_iload_n (pc' := 37) dX1_landBetween_36 rfl rfl ?_
    refine mw_ishlM (pc' := 38) dX1_landBetween_37 rfl ?_
    refine mw_iconst (pc' := 39) (v := (-1)) dX1_landBetween_38 rfl (by decide) ?_
    refine mw_ixorM (pc' := 40) dX1_landBetween_39 rfl ?_
    refine mw_iand (pc' := 41) dX1_landBetween_40 rfl ?_
    refine mw_iconst (pc' := 42) (v := 1) dX1_landBetween_41 rfl (by decide) ?_
    refine mw_iload (pc' := 44) dX1_landBetween_42 rfl rfl ?_
    refine mw_ishlM (pc' := 45) dX1_landBetween_44 rfl ?_
    refine mw_iconst (pc' := 46) (v := (-1)) dX1_landBetween_45 rfl (by decide) ?_
    refine mw_ixorM (pc' := 47) dX1_landBetween_46 rfl ?_
    refine mw_iand (pc' := 48) dX1_landBetween_47 rfl ?_
    refine mw_istore (pc' := 50) dX1_landBetween_48 rfl (by decide) ?_
    show mW _ _ _ _ _ [some (.inr (some a)), some (.inl v1), some (.inl v2), some (.inl v3), some (.inl v4), some (.inl (((f_X11_span v1 v3) &&& (m_not (m_shl 1 v1))) &&& (m_not (m_shl 1 v3)))), some (.inl (((f_X11_span v2 v4) &&& (m_not (m_shl 1 v2))) &&& (m_not (m_shl 1 v4))))] _ _ _
    refine mw_aload_n (pc' := 51) dX1_landBetween_50 rfl rfl ?_
    refine mw_getR (pc' := 54) dX1_landBetween_51 rfl flX1_9 rfl (ta) ?_
    rw [skBR_1_5 hS ta]
    refine mw_iload_n (pc' := 55) dX1_landBetween_54 rfl rfl ?_
    obtain ⟨o3, K⟩ := K
    refine mw_ialdL (pc' := 56) dX1_landBetween_55 rfl (skBT_1_1 hS ta) (skBL_1_1 hS ta) o3 ?_
    refine mw_iload (pc' := 58) dX1_landBetween_56 rfl rfl ?_
    refine mw_iand (pc' := 59) dX1_landBetween_58 rfl ?_
    refine mw_callS (pc' := 62) (b' := (0, 0)) (b1 := b) (av := [.inl ((mI h (a + 1) v2.toNatClampNeg) &&& (((f_X11_span v1 v3) &&& (m_not (m_shl 1 v1))) &&& (m_not (m_shl 1 v3))))]) (rest := []) dX1_landBetween_59 rfl lkX1_64 rfl rfl (Nat.le_of_ble_eq_true rfl) ⟨Nat.le_of_eq (Nat.zero_add _), Nat.le_of_eq (Nat.zero_add _)⟩ ?_
    refine pJ6_bitCount_0f7a4 ?_
    refine mw_aload_n (pc' := 63) dX1_landBetween_62 rfl rfl ?_
    refine mw_getR (pc' := 66) dX1_landBetween_63 rfl flX1_15 rfl (ta) ?_
    rw [skBR_1_6 hS ta]
    refine mw_iload_n (pc' := 67) dX1_landBetween_66 rfl rfl ?_
    obtain ⟨o4, K⟩ := K
    refine mw_ialdL (pc' := 68) dX1_landBetween_67 rfl (skBT_1_2 hS ta) (skBL_1_2 hS ta) o4 ?_
    refine mw_iload (pc' := 70) dX1_landBetween_68 rfl rfl ?_
    refine mw_iand (pc' := 71) dX1_landBetween_70 rfl ?_
    refine mw_callS (pc' := 74) (b' := (0, 0)) (b1 := b) (av := [.inl ((mI h (a + 2) v3.toNatClampNeg) &&& (((f_X11_span v2 v4) &&& (m_not (m_shl 1 v2))) &&& (m_not (m_shl 1 v4))))]) (rest := [.inl (f_J6_bitCount_0f7a4 ((mI h (a + 1) v2.toNatClampNeg) &&& (((f_X11_span v1 v3) &&& (m_not (m_shl 1 v1))) &&& (m_not (m_shl 1 v3)))))]) dX1_landBetween_71 rfl lkX1_64 rfl rfl (Nat.le_of_ble_eq_true rfl) ⟨Nat.le_of_eq (Nat.zero_add _), Nat.le_of_eq (Nat.zero_add _)⟩ ?_
    refine pJ6_bitCount_0f7a4 ?_
    refine mw_iadd (pc' := 75) dX1_landBetween_74 rfl ?_
    exact mw_iret dX1_landBetween_75 rfl rfl K

set_option maxRecDepth 100000 in
set_option maxHeartbeats 4000000 in
theorem qX1_sweep {G : mG} {d : Nat} {b : Nat × Nat} {h : mH} {Q : Option mV → mH → Prop} (a : Nat) (v1 : Int32) (ta : mT h a = 2) (hS : mSk h)
    (K : vp_in v1 4 ∧ (((mI h (a + 4) v1.toNatClampNeg) = 0 → vp_in v1 4 ∧ ∀ h3, h3 = mSI h (a + 4) v1.toNatClampNeg 1 → mW G kX1_sweep (d + 2) b 19 [some (.inr (some a)), some (.inl v1), some (.inl 0)] [] h3 Q) ∧ (¬ (mI h (a + 4) v1.toNatClampNeg) = 0 → Q none h))) : mC G kX1_sweep (d + 2) b [.inr (some a), .inl v1] h Q := by
  refine mC_in rfl (Nat.le_of_ble_eq_true rfl) ?_
  show mW _ _ _ _ _ [some (.inr (some a)), some (.inl v1), none] _ _ _
  refine mw_aload_n (pc' := 1) dX1_sweep_0 rfl rfl ?_
  refine mw_getR (pc' := 4) dX1_sweep_1 rfl flX1_21 rfl (ta) ?_
  rw [skBR_1_8 hS ta]
  refine mw_iload_n (pc' := 5) dX1_sweep_4 rfl rfl ?_
  obtain ⟨o1, K⟩ := K
  refine mw_baldL (pc' := 6) dX1_sweep_5 rfl (skBT_1_4 hS ta) (skBL_1_4 hS ta) o1 ?_
  refine mw_if_eq (pc' := 9) (tgt := 10) dX1_sweep_6 rfl (by decide) (fun c4 => ?_) (fun c4 => ?_)
  · replace K := K.1 c4
    refine mw_aload_n (pc' := 11) dX1_sweep_10 rfl rfl ?_
    refine mw_getR (pc' := 14) dX1_sweep_11 rfl flX1_21 rfl (ta) ?_
    rw [skBR_1_8 hS ta]
    refine mw_iload_n (pc' := 15) dX1_sweep_14 rfl rfl ?_
    refine mw_iconst (pc' := 16) (v := 1) dX1_sweep_15 rfl (by decide) ?_
    obtain ⟨o2, K⟩ := K
    refine mw_bastK (pc' := 17) dX1_sweep_16 rfl (skBT_1_4 hS ta) (skBL_1_4 hS ta) o2 (by decide) hS (fun h3 eh3 hS => ?_)
    replace K := K h3 eh3
    have ta : mT h3 a = 2 := by rw [eh3]; exact ta
    refine mw_iconst (pc' := 18) (v := 0) dX1_sweep_17 rfl (by decide) ?_
    refine mw_istore_n (pc' := 19) dX1_sweep_18 rfl (by decide) ?_
    show mW _ _ _ _ _ [some (.inr (some a)), some (.inl v1), some (.inl 0)] _ _ _
    exact K
  · replace K := K.2 c4
    exact mw_ret dX1_sweep_9 rfl K

set_option maxRecDepth 100000 in
set_option maxHeartbeats 4000000 in
theorem qX1_sweep_19 {G : mG} {d : Nat} {b : Nat × Nat} {h : mH} {Q : Option mV → mH → Prop} (a0 : Nat) (v1 : Int32) (v2 : Int32) (ta0 : mT h a0 = 2) (hS : mSk h)
    (K : ((32 ≤ v2 → Q none h) ∧ (¬ (32 ≤ v2) → mC G kX1_sweepLane (d + 1) (0, 0) [.inr (some a0), .inl v1, .inl v2] h (fun r h1 => r = none ∧ mSk h1 ∧ mT h1 a0 = 2 ∧ mW G kX1_sweep (d + 2) b 19 [some (.inr (some a0)), some (.inl v1), some (.inl (v2 + 1))] [] h1 Q)))) : mW G kX1_sweep (d + 2) b 19 [some (.inr (some a0)), some (.inl v1), some (.inl v2)] [] h Q := by
  refine mw_iload_n (pc' := 20) dX1_sweep_19 rfl rfl ?_
  refine mw_bipush (pc' := 22) (v := 32) dX1_sweep_20 rfl (by decide) ?_
  refine mw_icmp_ge (pc' := 25) (tgt := 37) dX1_sweep_22 rfl (by decide) (fun c2 => ?_) (fun c2 => ?_)
  · replace K := K.1 c2
    exact mw_ret dX1_sweep_37 rfl K
  · replace K := K.2 c2
    refine mw_aload_n (pc' := 26) dX1_sweep_25 rfl rfl ?_
    refine mw_iload_n (pc' := 27) dX1_sweep_26 rfl rfl ?_
    refine mw_iload_n (pc' := 28) dX1_sweep_27 rfl rfl ?_
    refine mw_callV (pc' := 31) (b' := (0, 0)) (b1 := b) (av := [.inl v1, .inl v2]) (rest := []) dX1_sweep_28 rfl lkX1_70 rfl rfl (Nat.le_of_ble_eq_true rfl) ⟨Nat.le_of_eq (Nat.zero_add _), Nat.le_of_eq (Nat.zero_add _)⟩ (ta0) ?_
    refine mC_mono (fun r h1 hr => ?_) K
    obtain ⟨rfl, hS, ta0, K⟩ := hr
    show mW _ _ _ _ _ _ [] _ _
    refine mw_iinc (pc' := 34) (v := v2 + 1) dX1_sweep_31 rfl (by decide) rfl rfl ?_
    show mW _ _ _ _ _ [some (.inr (some a0)), some (.inl v1), some (.inl (v2 + 1))] _ _ _
    refine mw_goto (tgt := 19) dX1_sweep_34 (by decide) ?_
    exact K

set_option maxRecDepth 100000 in
set_option maxHeartbeats 4000000 in
theorem qX1_sweepLane {G : mG} {d : Nat} {b : Nat × Nat} {h : mH} {Q : Option mV → mH → Prop} (a : Nat) (v1 : Int32) (v2 : Int32) (ta : mT h a = 2) (hS : mSk h)
    (K : ∀ w1 : Int32, w1 = (if ¬ (v1 &&& 1) = 0 then 0 else 1) → mW G kX1_sweepLane (d + 1) b 18 [some (.inr (some a)), some (.inl v1), some (.inl v2), some (.inl w1), some (.inl 0), some (.inl 0), none, none, none] [] h Q) : mC G kX1_sweepLane (d + 1) b [.inr (some a), .inl v1, .inl v2] h Q := by
  refine mC_in rfl (Nat.le_of_ble_eq_true rfl) ?_
  show mW _ _ _ _ _ [some (.inr (some a)), some (.inl v1), some (.inl v2), none, none, none, none, none, none] _ _ _
  refine mw_iload_n (pc' := 1) dX1_sweepLane_0 rfl rfl ?_
  refine mw_iconst (pc' := 2) (v := 1) dX1_sweepLane_1 rfl (by decide) ?_
  refine mw_iand (pc' := 3) dX1_sweepLane_2 rfl ?_
  have J2 : ∀ w1 : Int32, w1 = (if ¬ (v1 &&& 1) = 0 then 0 else 1) → mW G kX1_sweepLane (d + 1) b 11 [some (.inr (some a)), some (.inl v1), some (.inl v2), none, none, none, none, none, none] ([.inl w1]) h Q := by
    intro w1 ew1
    replace K := K w1 ew1
    refine mw_istore_n (pc' := 12) dX1_sweepLane_11 rfl (by decide) ?_
    show mW _ _ _ _ _ [some (.inr (some a)), some (.inl v1), some (.inl v2), some (.inl w1), none, none, none, none, none] _ _ _
    refine mw_iconst (pc' := 13) (v := 0) dX1_sweepLane_12 rfl (by decide) ?_
    refine mw_istore (pc' := 15) dX1_sweepLane_13 rfl (by decide) ?_
    show mW _ _ _ _ _ [some (.inr (some a)), some (.inl v1), some (.inl v2), some (.inl w1), some (.inl 0), none, none, none, none] _ _ _
    refine mw_iconst (pc' := 16) (v := 0) dX1_sweepLane_15 rfl (by decide) ?_
    refine mw_istore (pc' := 18) dX1_sweepLane_16 rfl (by decide) ?_
    show mW _ _ _ _ _ [some (.inr (some a)), some (.inl v1), some (.inl v2), some (.inl w1), some (.inl 0), some (.inl 0), none, none, none] _ _ _
    exact K
  refine mw_if_ne (pc' := 6) (tgt := 10) dX1_sweepLane_3 rfl (by decide) (fun c3 => ?_) (fun c3 => ?_)
  · refine mw_iconst (pc' := 11) (v := 0) dX1_sweepLane_10 rfl (by decide) ?_
    exact J2 _ (by rw [if_pos c3])
  · refine mw_iconst (pc' := 7) (v := 1) dX1_sweepLane_6 rfl (by decide) ?_
    refine mw_goto (tgt := 11) dX1_sweepLane_7 (by decide) ?_
    exact J2 _ (by rw [if_neg (fun z => z c3)])

set_option maxRecDepth 100000 in
set_option maxHeartbeats 4000000 in
theorem qX1_sweepLane_18 {G : mG} {d : Nat} {b : Nat × Nat} {h : mH} {Q : Option mV → mH → Prop} (a0 : Nat) (v1 : Int32) (v2 : Int32) (v3 : Int32) (v4 : Int32) (v5 : Int32) (ta0 : mT h a0 = 2) (hS : mSk h)
    (K : ((32 ≤ v5 → Q none h) ∧ (¬ (32 ≤ v5) → ∀ w1 : Int32, w1 = (if 2 ≤ v1 then v5 else (31 - v5)) → ∀ w2 : Int32, w2 = (if v3 = 0 then w1 else v2) → ∀ w3 : Int32, w3 = (if v3 = 0 then v2 else w1) → mC G kX1_isLand d (0, 0) [.inr (some a0), .inl w2, .inl w3] h (fun r h4 => ∃ x5, r = some (.inl x5) ∧ mSk h4 ∧ mT h4 a0 = 2 ∧ ((x5 = 0 → ((¬ v4 = (-1) → ((v4 ≤ 0 → vp_in (((v1 * 1024) + (w3 * 32)) + w2) 4096 ∧ ∀ h7, h7 = mSI h4 (a0 + 3) (((v1 * 1024) + (w3 * 32)) + w2).toNatClampNeg v4 → mW G kX1_sweepLane (d + 1) b 18 [some (.inr (some a0)), some (.inl v1), some (.inl v2), some (.inl v3), some (.inl v4), some (.inl (v5 + 1)), none, none, none] [] h7 Q) ∧ (¬ (v4 ≤ 0) → vp_in (((v1 * 1024) + (w3 * 32)) + w2) 4096 ∧ ∀ h9, h9 = mSI h4 (a0 + 3) (((v1 * 1024) + (w3 * 32)) + w2).toNatClampNeg (v4 + 4) → mW G kX1_sweepLane (d + 1) b 18 [some (.inr (some a0)), some (.inl v1), some (.inl v2), some (.inl v3), some (.inl (v4 + 4)), some (.inl (v5 + 1)), none, none, none] [] h9 Q))) ∧ (v4 = (-1) → mC G kX1_sortBeside d (0, 0) [.inr (some a0), .inl v1, .inl w2, .inl w3] h4 (fun r h11 => ∃ x12, r = some (.inl x12) ∧ mSk h11 ∧ mT h11 a0 = 2 ∧ vp_in (((v1 * 1024) + (w3 * 32)) + w2) 4096 ∧ ∀ h14, h14 = mSI h11 (a0 + 3) (((v1 * 1024) + (w3 * 32)) + w2).toNatClampNeg (4 + x12) → mW G kX1_sweepLane (d + 1) b 18 [some (.inr (some a0)), some (.inl v1), some (.inl v2), some (.inl v3), some (.inl (4 + x12)), some (.inl (v5 + 1)), none, none, none] [] h14 Q)))) ∧ (¬ x5 = 0 → vp_in (((v1 * 1024) + (w3 * 32)) + w2) 4096 ∧ ∀ h17, h17 = mSI h4 (a0 + 3) (((v1 * 1024) + (w3 * 32)) + w2).toNatClampNeg (-1) → mW G kX1_sweepLane (d + 1) b 18 [some (.inr (some a0)), some (.inl v1), some (.inl v2), some (.inl v3), some (.inl (-1)), some (.inl (v5 + 1)), none, none, none] [] h17 Q)))))) : mW G kX1_sweepLane (d + 1) b 18 [some (.inr (some a0)), some (.inl v1), some (.inl v2), some (.inl v3), some (.inl v4), some (.inl v5), none, none, none] [] h Q := by
  refine mw_iload (pc' := 20) dX1_sweepLane_18 rfl rfl ?_
  refine mw_bipush (pc' := 22) (v := 32) dX1_sweepLane_20 rfl (by decide) ?_
  refine mw_icmp_ge (pc' := 25) (tgt := 140) dX1_sweepLane_22 rfl (by decide) (fun c25 => ?_) (fun c25 => ?_)
  · replace K := K.1 c25
    exact mw_ret dX1_sweepLane_140 rfl K
  · replace K := K.2 c25
    refine mw_iload_n (pc' := 26) dX1_sweepLane_25 rfl rfl ?_
    refine mw_iconst (pc' := 27) (v := 2) dX1_sweepLane_26 rfl (by decide) ?_
    have J23 : ∀ w1 : Int32, w1 = (if 2 ≤ v1 then v5 else (31 - v5)) → mW G kX1_sweepLane (d + 1) b 40 [some (.inr (some a0)), some (.inl v1), some (.inl v2), some (.inl v3), some (.inl v4), some (.inl v5), none, none, none] ([.inl w1]) h Q := by
      intro w1 ew1
      replace K := K w1 ew1
      refine mw_istore (pc' := 42) dX1_sweepLane_40 rfl (by decide) ?_
      show mW _ _ _ _ _ [some (.inr (some a0)), some (.inl v1), some (.inl v2), some (.inl v3), some (.inl v4), some (.inl v5), some (.inl w1), none, none] _ _ _
      refine mw_iload_n (pc' := 43) dX1_sweepLane_42 rfl rfl ?_
      have J21 : ∀ w2 : Int32, w2 = (if v3 = 0 then w1 else v2) → mW G kX1_sweepLane (d + 1) b 52 [some (.inr (some a0)), some (.inl v1), some (.inl v2), some (.inl v3), some (.inl v4), some (.inl v5), some (.inl w1), none, none] ([.inl w2]) h Q := by
        intro w2 ew2
        replace K := K w2 ew2
        refine mw_istore (pc' := 54) dX1_sweepLane_52 rfl (by decide) ?_
        show mW _ _ _ _ _ [some (.inr (some a0)), some (.inl v1), some (.inl v2), some (.inl v3), some (.inl v4), some (.inl v5), some (.inl w1), some (.inl w2), none] _ _ _
        refine mw_iload_n (pc' := 55) dX1_sweepLane_54 rfl rfl ?_
        have J19 : ∀ w3 : Int32, w3 = (if v3 = 0 then v2 else w1) → mW G kX1_sweepLane (d + 1) b 64 [some (.inr (some a0)), some (.inl v1), some (.inl v2), some (.inl v3), some (.inl v4), some (.inl v5), some (.inl w1), some (.inl w2), none] ([.inl w3]) h Q := by
          intro w3 ew3
          replace K := K w3 ew3
          refine mw_istore (pc' := 66) dX1_sweepLane_64 rfl (by decide) ?_
          show mW _ _ _ _ _ [some (.inr (some a0)), some (.inl v1), some (.inl v2), some (.inl v3), some (.inl v4), some (.inl v5), some (.inl w1), some (.inl w2), some (.inl w3)] _ _ _
          refine mw_aload_n (pc' := 67) dX1_sweepLane_66 rfl rfl ?_
          refine mw_iload (pc' := 69) dX1_sweepLane_67 rfl rfl ?_
          refine mw_iload (pc' := 71) dX1_sweepLane_69 rfl rfl ?_
          refine mw_callV (pc' := 74) (b' := (0, 0)) (b1 := b) (av := [.inl w2, .inl w3]) (rest := []) dX1_sweepLane_71 rfl lkX1_74 rfl rfl (Nat.le_of_ble_eq_true rfl) ⟨Nat.le_of_eq (Nat.zero_add _), Nat.le_of_eq (Nat.zero_add _)⟩ (ta0) ?_
          refine mC_mono (fun r h4 hr => ?_) K
          obtain ⟨x5, rfl, hS, ta0, K⟩ := hr
          show mW _ _ _ _ _ _ [.inl x5] _ _
          refine mw_if_eq (pc' := 77) (tgt := 83) dX1_sweepLane_74 rfl (by decide) (fun c18 => ?_) (fun c18 => ?_)
          · replace K := K.1 c18
            refine mw_iload (pc' := 85) dX1_sweepLane_83 rfl rfl ?_
            refine mw_iconst (pc' := 86) (v := (-1)) dX1_sweepLane_85 rfl (by decide) ?_
            refine mw_icmp_ne (pc' := 89) (tgt := 105) dX1_sweepLane_86 rfl (by decide) (fun c15 => ?_) (fun c15 => ?_)
            · replace K := K.1 c15
              refine mw_iload (pc' := 107) dX1_sweepLane_105 rfl rfl ?_
              refine mw_if_le (pc' := 110) (tgt := 113) dX1_sweepLane_107 rfl (by decide) (fun c10 => ?_) (fun c10 => ?_)
              · replace K := K.1 c10
                refine mw_aload_n (pc' := 114) dX1_sweepLane_113 rfl rfl ?_
                refine mw_getR (pc' := 117) dX1_sweepLane_114 rfl flX1_18 rfl (ta0) ?_
                rw [skBR_1_7 hS ta0]
                refine mw_iload_n (pc' := 118) dX1_sweepLane_117 rfl rfl ?_
                refine mw_sipush (pc' := 121) (v := 1024) dX1_sweepLane_118 rfl (by decide) ?_
                refine mw_imul (pc' := 122) dX1_sweepLane_121 rfl ?_
                refine mw_iload (pc' := 124) dX1_sweepLane_122 rfl rfl ?_
                refine mw_bipush (pc' := 126) (v := 32) dX1_sweepLane_124 rfl (by decide) ?_
                refine mw_imul (pc' := 127) dX1_sweepLane_126 rfl ?_
                refine mw_iadd (pc' := 128) dX1_sweepLane_127 rfl ?_
                refine mw_iload (pc' := 130) dX1_sweepLane_128 rfl rfl ?_
                refine mw_iadd (pc' := 131) dX1_sweepLane_130 rfl ?_
                refine mw_iload (pc' := 133) dX1_sweepLane_131 rfl rfl ?_
                obtain ⟨o6, K⟩ := K
                refine mw_iastK (pc' := 134) dX1_sweepLane_133 rfl (skBT_1_3 hS ta0) (skBL_1_3 hS ta0) o6 hS (fun h7 eh7 hS => ?_)
                replace K := K h7 eh7
                have ta0 : mT h7 a0 = 2 := by rw [eh7]; exact ta0
                refine mw_iinc (pc' := 137) (v := v5 + 1) dX1_sweepLane_134 rfl (by decide) rfl rfl ?_
                show mW _ _ _ _ _ [some (.inr (some a0)), some (.inl v1), some (.inl v2), some (.inl v3), some (.inl v4), some (.inl (v5 + 1)), some (.inl w1), some (.inl w2), some (.inl w3)] _ _ _
                refine mw_goto (tgt := 18) dX1_sweepLane_137 (by decide) ?_
                refine mw_weak (ls' := [some (.inr (some a0)), some (.inl v1), some (.inl v2), some (.inl v3), some (.inl v4), some (.inl (v5 + 1)), none, none, none]) ?_ ?_
                · intro i v hv; match i, hv with
                  | 0, hv => exact hv
                  | 1, hv => exact hv
                  | 2, hv => exact hv
                  | 3, hv => exact hv
                  | 4, hv => exact hv
                  | 5, hv => exact hv
                  | 6, hv => cases hv
                  | 7, hv => cases hv
                  | 8, hv => cases hv
                  | n + 9, hv => cases hv
                exact K
              · replace K := K.2 c10
                refine mw_iinc (pc' := 113) (v := v4 + 4) dX1_sweepLane_110 rfl (by decide) rfl rfl ?_
                show mW _ _ _ _ _ [some (.inr (some a0)), some (.inl v1), some (.inl v2), some (.inl v3), some (.inl (v4 + 4)), some (.inl v5), some (.inl w1), some (.inl w2), some (.inl w3)] _ _ _
                refine mw_aload_n (pc' := 114) dX1_sweepLane_113 rfl rfl ?_
                refine mw_getR (pc' := 117) dX1_sweepLane_114 rfl flX1_18 rfl (ta0) ?_
                rw [skBR_1_7 hS ta0]
                refine mw_iload_n (pc' := 118) dX1_sweepLane_117 rfl rfl ?_
                refine mw_sipush (pc' := 121) (v := 1024) dX1_sweepLane_118 rfl (by decide) ?_
                refine mw_imul (pc' := 122) dX1_sweepLane_121 rfl ?_
                refine mw_iload (pc' := 124) dX1_sweepLane_122 rfl rfl ?_
                refine mw_bipush (pc' := 126) (v := 32) dX1_sweepLane_124 rfl (by decide) ?_
                refine mw_imul (pc' := 127) dX1_sweepLane_126 rfl ?_
                refine mw_iadd (pc' := 128) dX1_sweepLane_127 rfl ?_
                refine mw_iload (pc' := 130) dX1_sweepLane_128 rfl rfl ?_
                refine mw_iadd (pc' := 131) dX1_sweepLane_130 rfl ?_
                refine mw_iload (pc' := 133) dX1_sweepLane_131 rfl rfl ?_
                obtain ⟨o8, K⟩ := K
                refine mw_iastK (pc' := 134) dX1_sweepLane_133 rfl (skBT_1_3 hS ta0) (skBL_1_3 hS ta0) o8 hS (fun h9 eh9 hS => ?_)
                replace K := K h9 eh9
                have ta0 : mT h9 a0 = 2 := by rw [eh9]; exact ta0
                refine mw_iinc (pc' := 137) (v := v5 + 1) dX1_sweepLane_134 rfl (by decide) rfl rfl ?_
                show mW _ _ _ _ _ [some (.inr (some a0)), some (.inl v1), some (.inl v2), some (.inl v3), some (.inl (v4 + 4)), some (.inl (v5 + 1)), some (.inl w1), some (.inl w2), some (.inl w3)] _ _ _
                refine mw_goto (tgt := 18) dX1_sweepLane_137 (by decide) ?_
                refine mw_weak (ls' := [some (.inr (some a0)), some (.inl v1), some (.inl v2), some (.inl v3), some (.inl (v4 + 4)), some (.inl (v5 + 1)), none, none, none]) ?_ ?_
                · intro i v hv; match i, hv with
                  | 0, hv => exact hv
                  | 1, hv => exact hv
                  | 2, hv => exact hv
                  | 3, hv => exact hv
                  | 4, hv => exact hv
                  | 5, hv => exact hv
                  | 6, hv => cases hv
                  | 7, hv => cases hv
                  | 8, hv => cases hv
                  | n + 9, hv => cases hv
                exact K
            · replace K := K.2 c15
              refine mw_iconst (pc' := 90) (v := 4) dX1_sweepLane_89 rfl (by decide) ?_
              refine mw_aload_n (pc' := 91) dX1_sweepLane_90 rfl rfl ?_
              refine mw_iload_n (pc' := 92) dX1_sweepLane_91 rfl rfl ?_
              refine mw_iload (pc' := 94) dX1_sweepLane_92 rfl rfl ?_
              refine mw_iload (pc' := 96) dX1_sweepLane_94 rfl rfl ?_
              refine mw_callV (pc' := 99) (b' := (0, 0)) (b1 := b) (av := [.inl v1, .inl w2, .inl w3]) (rest := [.inl 4]) dX1_sweepLane_96 rfl lkX1_78 rfl rfl (Nat.le_of_ble_eq_true rfl) ⟨Nat.le_of_eq (Nat.zero_add _), Nat.le_of_eq (Nat.zero_add _)⟩ (ta0) ?_
              refine mC_mono (fun r h11 hr => ?_) K
              obtain ⟨x12, rfl, hS, ta0, K⟩ := hr
              show mW _ _ _ _ _ _ [.inl x12, .inl 4] _ _
              refine mw_iadd (pc' := 100) dX1_sweepLane_99 rfl ?_
              refine mw_istore (pc' := 102) dX1_sweepLane_100 rfl (by decide) ?_
              show mW _ _ _ _ _ [some (.inr (some a0)), some (.inl v1), some (.inl v2), some (.inl v3), some (.inl (4 + x12)), some (.inl v5), some (.inl w1), some (.inl w2), some (.inl w3)] _ _ _
              refine mw_goto (tgt := 113) dX1_sweepLane_102 (by decide) ?_
              refine mw_aload_n (pc' := 114) dX1_sweepLane_113 rfl rfl ?_
              refine mw_getR (pc' := 117) dX1_sweepLane_114 rfl flX1_18 rfl (ta0) ?_
              rw [skBR_1_7 hS ta0]
              refine mw_iload_n (pc' := 118) dX1_sweepLane_117 rfl rfl ?_
              refine mw_sipush (pc' := 121) (v := 1024) dX1_sweepLane_118 rfl (by decide) ?_
              refine mw_imul (pc' := 122) dX1_sweepLane_121 rfl ?_
              refine mw_iload (pc' := 124) dX1_sweepLane_122 rfl rfl ?_
              refine mw_bipush (pc' := 126) (v := 32) dX1_sweepLane_124 rfl (by decide) ?_
              refine mw_imul (pc' := 127) dX1_sweepLane_126 rfl ?_
              refine mw_iadd (pc' := 128) dX1_sweepLane_127 rfl ?_
              refine mw_iload (pc' := 130) dX1_sweepLane_128 rfl rfl ?_
              refine mw_iadd (pc' := 131) dX1_sweepLane_130 rfl ?_
              refine mw_iload (pc' := 133) dX1_sweepLane_131 rfl rfl ?_
              obtain ⟨o13, K⟩ := K
              refine mw_iastK (pc' := 134) dX1_sweepLane_133 rfl (skBT_1_3 hS ta0) (skBL_1_3 hS ta0) o13 hS (fun h14 eh14 hS => ?_)
              replace K := K h14 eh14
              have ta0 : mT h14 a0 = 2 := by rw [eh14]; exact ta0
              refine mw_iinc (pc' := 137) (v := v5 + 1) dX1_sweepLane_134 rfl (by decide) rfl rfl ?_
              show mW _ _ _ _ _ [some (.inr (some a0)), some (.inl v1), some (.inl v2), some (.inl v3), some (.inl (4 + x12)), some (.inl (v5 + 1)), some (.inl w1), some (.inl w2), some (.inl w3)] _ _ _
              refine mw_goto (tgt := 18) dX1_sweepLane_137 (by decide) ?_
              refine mw_weak (ls' := [some (.inr (some a0)), some (.inl v1), some (.inl v2), some (.inl v3), some (.inl (4 + x12)), some (.inl (v5 + 1)), none, none, none]) ?_ ?_
              · intro i v hv; match i, hv with
                | 0, hv => exact hv
                | 1, hv => exact hv
                | 2, hv => exact hv
                | 3, hv => exact hv
                | 4, hv => exact hv
                | 5, hv => exact hv
                | 6, hv => cases hv
                | 7, hv => cases hv
                | 8, hv => cases hv
                | n + 9, hv => cases hv
              exact K
          · replace K := K.2 c18
            refine mw_iconst (pc' := 78) (v := (-1)) dX1_sweepLane_77 rfl (by decide) ?_
            refine mw_istore (pc' := 80) dX1_sweepLane_78 rfl (by decide) ?_
            show mW _ _ _ _ _ [some (.inr (some a0)), some (.inl v1), some (.inl v2), some (.inl v3), some (.inl (-1)), some (.inl v5), some (.inl w1), some (.inl w2), some (.inl w3)] _ _ _
            refine mw_goto (tgt := 113) dX1_sweepLane_80 (by decide) ?_
            refine mw_aload_n (pc' := 114) dX1_sweepLane_113 rfl rfl ?_
            refine mw_getR (pc' := 117) dX1_sweepLane_114 rfl flX1_18 rfl (ta0) ?_
            rw [skBR_1_7 hS ta0]
            refine mw_iload_n (pc' := 118) dX1_sweepLane_117 rfl rfl ?_
            refine mw_sipush (pc' := 121) (v := 1024) dX1_sweepLane_118 rfl (by decide) ?_
            refine mw_imul (pc' := 122) dX1_sweepLane_121 rfl ?_
            refine mw_iload (pc' := 124) dX1_sweepLane_122 rfl rfl ?_
            refine mw_bipush (pc' := 126) (v := 32) dX1_sweepLane_124 rfl (by decide) ?_
            refine mw_imul (pc' := 127) dX1_sweepLane_126 rfl ?_
            refine mw_iadd (pc' := 128) dX1_sweepLane_127 rfl ?_
            refine mw_iload (pc' := 130) dX1_sweepLane_128 rfl rfl ?_
            refine mw_iadd (pc' := 131) dX1_sweepLane_130 rfl ?_
            refine mw_iload (pc' := 133) dX1_sweepLane_131 rfl rfl ?_
            obtain ⟨o16, K⟩ := K
            refine mw_iastK (pc' := 134) dX1_sweepLane_133 rfl (skBT_1_3 hS ta0) (skBL_1_3 hS ta0) o16 hS (fun h17 eh17 hS => ?_)
            replace K := K h17 eh17
            have ta0 : mT h17 a0 = 2 := by rw [eh17]; exact ta0
            refine mw_iinc (pc' := 137) (v := v5 + 1) dX1_sweepLane_134 rfl (by decide) rfl rfl ?_
            show mW _ _ _ _ _ [some (.inr (some a0)), some (.inl v1), some (.inl v2), some (.inl v3), some (.inl (-1)), some (.inl (v5 + 1)), some (.inl w1), some (.inl w2), some (.inl w3)] _ _ _
            refine mw_goto (tgt := 18) dX1_sweepLane_137 (by decide) ?_
            refine mw_weak (ls' := [some (.inr (some a0)), some (.inl v1), some (.inl v2), some (.inl v3), some (.inl (-1)), some (.inl (v5 + 1)), none, none, none]) ?_ ?_
            · intro i v hv; match i, hv with
              | 0, hv => exact hv
              | 1, hv => exact hv
              | 2, hv => exact hv
              | 3, hv => exact hv
              | 4, hv => exact hv
              | 5, hv => exact hv
              | 6, hv => cases hv
              | 7, hv => cases hv
              | 8, hv => cases hv
              | n + 9, hv => cases hv
            exact K
        refine mw_if_eq (pc' := 58) (tgt := 63) dX1_sweepLane_55 rfl (by decide) (fun c20 => ?_) (fun c20 => ?_)
        · refine mw_iload_n (pc' := 64) dX1_sweepLane_63 rfl rfl ?_
          exact J19 _ (by rw [if_pos c20])
        · refine mw_iload (pc' := 60) dX1_sweepLane_58 rfl rfl ?_
          refine mw_goto (tgt := 64) dX1_sweepLane_60 (by decide) ?_
          exact J19 _ (by rw [if_neg c20])
      refine mw_if_eq (pc' := 46) (tgt := 50) dX1_sweepLane_43 rfl (by decide) (fun c22 => ?_) (fun c22 => ?_)
      · refine mw_iload (pc' := 52) dX1_sweepLane_50 rfl rfl ?_
        exact J21 _ (by rw [if_pos c22])
      · refine mw_iload_n (pc' := 47) dX1_sweepLane_46 rfl rfl ?_
        refine mw_goto (tgt := 52) dX1_sweepLane_47 (by decide) ?_
        exact J21 _ (by rw [if_neg c22])
    refine mw_icmp_ge (pc' := 30) (tgt := 38) dX1_sweepLane_27 rfl (by decide) (fun c24 => ?_) (fun c24 => ?_)
    · refine mw_iload (pc' := 40) dX1_sweepLane_38 rfl rfl ?_
      exact J23 _ (by rw [if_pos c24])
    · refine mw_bipush (pc' := 32) (v := 31) dX1_sweepLane_30 rfl (by decide) ?_
      refine mw_iload (pc' := 34) dX1_sweepLane_32 rfl rfl ?_
      refine mw_isub (pc' := 35) dX1_sweepLane_34 rfl ?_
      refine mw_goto (tgt := 40) dX1_sweepLane_35 (by decide) ?_
      exact J23 _ (by rw [if_neg c24])

set_option maxRecDepth 100000 in
set_option maxHeartbeats 4000000 in
theorem qX1_sortBeside {G : mG} {d : Nat} {b : Nat × Nat} {h : mH} {Q : Option mV → mH → Prop} (a : Nat) (v1 : Int32) (v2 : Int32) (v3 : Int32) (ta : mT h a = 2) (hS : mSk h)
    (K : ∀ w1 : Int32, w1 = (if ¬ (v1 &&& 1) = 0 then 0 else 1) → ((w1 = 0 → ((w1 = 0 → ∀ w2 : Int32, w2 = (if w1 = 0 then v2 else v3) → ∀ w3 : Int32, w3 = (if 2 ≤ v1 then 0 else 1) → ∀ w4 : Int32, w4 = (if w1 = 0 then v3 else v2) → ∀ w5 : Int32, w5 = (if w1 = 0 then 1 else 0) → mW G kX1_sortBeside d b 96 [some (.inr (some a)), none, none, none, none, some (.inr (some (a + 6))), some (.inr (some (a + 7))), some (.inl (w2 + w3)), some (.inl w4), some (.inl w5), none, none] [] h Q) ∧ (¬ w1 = 0 → ∀ w14 : Int32, w14 = (if w1 = 0 then v2 else v3) → ∀ w15 : Int32, w15 = (if 2 ≤ v1 then 0 else 1) → ∀ w16 : Int32, w16 = (if w1 = 0 then v3 else v2) → ∀ w17 : Int32, w17 = (if w1 = 0 then 1 else 0) → mW G kX1_sortBeside d b 96 [some (.inr (some a)), none, none, none, none, some (.inr (some (a + 6))), some (.inr (some (a + 6))), some (.inl (w14 + w15)), some (.inl w16), some (.inl w17), none, none] [] h Q))) ∧ (¬ w1 = 0 → ((w1 = 0 → ∀ w27 : Int32, w27 = (if w1 = 0 then v2 else v3) → ∀ w28 : Int32, w28 = (if 2 ≤ v1 then 0 else 1) → ∀ w29 : Int32, w29 = (if w1 = 0 then v3 else v2) → ∀ w30 : Int32, w30 = (if w1 = 0 then 1 else 0) → mW G kX1_sortBeside d b 96 [some (.inr (some a)), none, none, none, none, some (.inr (some (a + 7))), some (.inr (some (a + 7))), some (.inl (w27 + w28)), some (.inl w29), some (.inl w30), none, none] [] h Q) ∧ (¬ w1 = 0 → ∀ w39 : Int32, w39 = (if w1 = 0 then v2 else v3) → ∀ w40 : Int32, w40 = (if 2 ≤ v1 then 0 else 1) → ∀ w41 : Int32, w41 = (if w1 = 0 then v3 else v2) → ∀ w42 : Int32, w42 = (if w1 = 0 then 1 else 0) → mW G kX1_sortBeside d b 96 [some (.inr (some a)), none, none, none, none, some (.inr (some (a + 7))), some (.inr (some (a + 6))), some (.inl (w39 + w40)), some (.inl w41), some (.inl w42), none, none] [] h Q))))) : mC G kX1_sortBeside d b [.inr (some a), .inl v1, .inl v2, .inl v3] h Q := by
  refine mC_in rfl (Nat.le_of_ble_eq_true rfl) ?_
  show mW _ _ _ _ _ [some (.inr (some a)), some (.inl v1), some (.inl v2), some (.inl v3), none, none, none, none, none, none, none, none] _ _ _
  refine mw_iload_n (pc' := 1) dX1_sortBeside_0 rfl rfl ?_
  refine mw_iconst (pc' := 2) (v := 1) dX1_sortBeside_1 rfl (by decide) ?_
  refine mw_iand (pc' := 3) dX1_sortBeside_2 rfl ?_
  have J53 : ∀ w1 : Int32, w1 = (if ¬ (v1 &&& 1) = 0 then 0 else 1) → mW G kX1_sortBeside d b 11 [some (.inr (some a)), some (.inl v1), some (.inl v2), some (.inl v3), none, none, none, none, none, none, none, none] ([.inl w1]) h Q := by
    intro w1 ew1
    replace K := K w1 ew1
    refine mw_istore (pc' := 13) dX1_sortBeside_11 rfl (by decide) ?_
    show mW _ _ _ _ _ [some (.inr (some a)), some (.inl v1), some (.inl v2), some (.inl v3), some (.inl w1), none, none, none, none, none, none, none] _ _ _
    refine mw_iload (pc' := 15) dX1_sortBeside_13 rfl rfl ?_
    refine mw_if_eq (pc' := 18) (tgt := 25) dX1_sortBeside_15 rfl (by decide) (fun c52 => ?_) (fun c52 => ?_)
    · replace K := K.1 c52
      refine mw_aload_n (pc' := 26) dX1_sortBeside_25 rfl rfl ?_
      refine mw_getR (pc' := 29) dX1_sortBeside_26 rfl flX1_35 rfl (ta) ?_
      rw [skBR_1_2 hS ta]
      refine mw_astore (pc' := 31) dX1_sortBeside_29 rfl (by decide) ?_
      show mW _ _ _ _ _ [some (.inr (some a)), some (.inl v1), some (.inl v2), some (.inl v3), some (.inl w1), some (.inr (some (a + 6))), none, none, none, none, none, none] _ _ _
      refine mw_iload (pc' := 33) dX1_sortBeside_31 rfl rfl ?_
      refine mw_if_eq (pc' := 36) (tgt := 43) dX1_sortBeside_33 rfl (by decide) (fun c26 => ?_) (fun c26 => ?_)
      · replace K := K.1 c26
        refine mw_aload_n (pc' := 44) dX1_sortBeside_43 rfl rfl ?_
        refine mw_getR (pc' := 47) dX1_sortBeside_44 rfl flX1_38 rfl (ta) ?_
        rw [skBR_1_3 hS ta]
        refine mw_astore (pc' := 49) dX1_sortBeside_47 rfl (by decide) ?_
        show mW _ _ _ _ _ [some (.inr (some a)), some (.inl v1), some (.inl v2), some (.inl v3), some (.inl w1), some (.inr (some (a + 6))), some (.inr (some (a + 7))), none, none, none, none, none] _ _ _
        refine mw_iload (pc' := 51) dX1_sortBeside_49 rfl rfl ?_
        have J12 : ∀ w2 : Int32, w2 = (if w1 = 0 then v2 else v3) → mW G kX1_sortBeside d b 59 [some (.inr (some a)), some (.inl v1), some (.inl v2), some (.inl v3), some (.inl w1), some (.inr (some (a + 6))), some (.inr (some (a + 7))), none, none, none, none, none] ([.inl w2]) h Q := by
          intro w2 ew2
          replace K := K w2 ew2
          refine mw_iload_n (pc' := 60) dX1_sortBeside_59 rfl rfl ?_
          refine mw_iconst (pc' := 61) (v := 2) dX1_sortBeside_60 rfl (by decide) ?_
          have J10 : ∀ w3 : Int32, w3 = (if 2 ≤ v1 then 0 else 1) → mW G kX1_sortBeside d b 69 [some (.inr (some a)), some (.inl v1), some (.inl v2), some (.inl v3), some (.inl w1), some (.inr (some (a + 6))), some (.inr (some (a + 7))), none, none, none, none, none] ([.inl w3, .inl w2]) h Q := by
            intro w3 ew3
            replace K := K w3 ew3
            refine mw_iadd (pc' := 70) dX1_sortBeside_69 rfl ?_
            refine mw_istore (pc' := 72) dX1_sortBeside_70 rfl (by decide) ?_
            show mW _ _ _ _ _ [some (.inr (some a)), some (.inl v1), some (.inl v2), some (.inl v3), some (.inl w1), some (.inr (some (a + 6))), some (.inr (some (a + 7))), some (.inl (w2 + w3)), none, none, none, none] _ _ _
            refine mw_iload (pc' := 74) dX1_sortBeside_72 rfl rfl ?_
            have J8 : ∀ w4 : Int32, w4 = (if w1 = 0 then v3 else v2) → mW G kX1_sortBeside d b 82 [some (.inr (some a)), some (.inl v1), some (.inl v2), some (.inl v3), some (.inl w1), some (.inr (some (a + 6))), some (.inr (some (a + 7))), some (.inl (w2 + w3)), none, none, none, none] ([.inl w4]) h Q := by
              intro w4 ew4
              replace K := K w4 ew4
              refine mw_istore (pc' := 84) dX1_sortBeside_82 rfl (by decide) ?_
              show mW _ _ _ _ _ [some (.inr (some a)), some (.inl v1), some (.inl v2), some (.inl v3), some (.inl w1), some (.inr (some (a + 6))), some (.inr (some (a + 7))), some (.inl (w2 + w3)), some (.inl w4), none, none, none] _ _ _
              refine mw_iload (pc' := 86) dX1_sortBeside_84 rfl rfl ?_
              have J6 : ∀ w5 : Int32, w5 = (if w1 = 0 then 1 else 0) → mW G kX1_sortBeside d b 94 [some (.inr (some a)), some (.inl v1), some (.inl v2), some (.inl v3), some (.inl w1), some (.inr (some (a + 6))), some (.inr (some (a + 7))), some (.inl (w2 + w3)), some (.inl w4), none, none, none] ([.inl w5]) h Q := by
                intro w5 ew5
                replace K := K w5 ew5
                refine mw_istore (pc' := 96) dX1_sortBeside_94 rfl (by decide) ?_
                show mW _ _ _ _ _ [some (.inr (some a)), some (.inl v1), some (.inl v2), some (.inl v3), some (.inl w1), some (.inr (some (a + 6))), some (.inr (some (a + 7))), some (.inl (w2 + w3)), some (.inl w4), some (.inl w5), none, none] _ _ _
                refine mw_weak (ls' := [some (.inr (some a)), none, none, none, none, some (.inr (some (a + 6))), some (.inr (some (a + 7))), some (.inl (w2 + w3)), some (.inl w4), some (.inl w5), none, none]) ?_ ?_
                · intro i v hv; match i, hv with
                  | 0, hv => exact hv
                  | 1, hv => cases hv
                  | 2, hv => cases hv
                  | 3, hv => cases hv
                  | 4, hv => cases hv
                  | 5, hv => exact hv
                  | 6, hv => exact hv
                  | 7, hv => exact hv
                  | 8, hv => exact hv
                  | 9, hv => exact hv
                  | 10, hv => cases hv
                  | 11, hv => cases hv
                  | n + 12, hv => cases hv
                exact K
              refine mw_if_eq (pc' := 89) (tgt := 93) dX1_sortBeside_86 rfl (by decide) (fun c7 => ?_) (fun c7 => ?_)
              · refine mw_iconst (pc' := 94) (v := 1) dX1_sortBeside_93 rfl (by decide) ?_
                exact J6 _ (by rw [if_pos c7])
              · refine mw_iconst (pc' := 90) (v := 0) dX1_sortBeside_89 rfl (by decide) ?_
                refine mw_goto (tgt := 94) dX1_sortBeside_90 (by decide) ?_
                exact J6 _ (by rw [if_neg c7])
            refine mw_if_eq (pc' := 77) (tgt := 81) dX1_sortBeside_74 rfl (by decide) (fun c9 => ?_) (fun c9 => ?_)
            · refine mw_iload_n (pc' := 82) dX1_sortBeside_81 rfl rfl ?_
              exact J8 _ (by rw [if_pos c9])
            · refine mw_iload_n (pc' := 78) dX1_sortBeside_77 rfl rfl ?_
              refine mw_goto (tgt := 82) dX1_sortBeside_78 (by decide) ?_
              exact J8 _ (by rw [if_neg c9])
          refine mw_icmp_ge (pc' := 64) (tgt := 68) dX1_sortBeside_61 rfl (by decide) (fun c11 => ?_) (fun c11 => ?_)
          · refine mw_iconst (pc' := 69) (v := 0) dX1_sortBeside_68 rfl (by decide) ?_
            exact J10 _ (by rw [if_pos c11])
          · refine mw_iconst (pc' := 65) (v := 1) dX1_sortBeside_64 rfl (by decide) ?_
            refine mw_goto (tgt := 69) dX1_sortBeside_65 (by decide) ?_
            exact J10 _ (by rw [if_neg c11])
        refine mw_if_eq (pc' := 54) (tgt := 58) dX1_sortBeside_51 rfl (by decide) (fun c13 => ?_) (fun c13 => ?_)
        · refine mw_iload_n (pc' := 59) dX1_sortBeside_58 rfl rfl ?_
          exact J12 _ (by rw [if_pos c13])
        · refine mw_iload_n (pc' := 55) dX1_sortBeside_54 rfl rfl ?_
          refine mw_goto (tgt := 59) dX1_sortBeside_55 (by decide) ?_
          exact J12 _ (by rw [if_neg c13])
      · replace K := K.2 c26
        refine mw_aload_n (pc' := 37) dX1_sortBeside_36 rfl rfl ?_
        refine mw_getR (pc' := 40) dX1_sortBeside_37 rfl flX1_35 rfl (ta) ?_
        rw [skBR_1_2 hS ta]
        refine mw_goto (tgt := 47) dX1_sortBeside_40 (by decide) ?_
        refine mw_astore (pc' := 49) dX1_sortBeside_47 rfl (by decide) ?_
        show mW _ _ _ _ _ [some (.inr (some a)), some (.inl v1), some (.inl v2), some (.inl v3), some (.inl w1), some (.inr (some (a + 6))), some (.inr (some (a + 6))), none, none, none, none, none] _ _ _
        refine mw_iload (pc' := 51) dX1_sortBeside_49 rfl rfl ?_
        have J24 : ∀ w14 : Int32, w14 = (if w1 = 0 then v2 else v3) → mW G kX1_sortBeside d b 59 [some (.inr (some a)), some (.inl v1), some (.inl v2), some (.inl v3), some (.inl w1), some (.inr (some (a + 6))), some (.inr (some (a + 6))), none, none, none, none, none] ([.inl w14]) h Q := by
          intro w14 ew14
          replace K := K w14 ew14
          refine mw_iload_n (pc' := 60) dX1_sortBeside_59 rfl rfl ?_
          refine mw_iconst (pc' := 61) (v := 2) dX1_sortBeside_60 rfl (by decide) ?_
          have J22 : ∀ w15 : Int32, w15 = (if 2 ≤ v1 then 0 else 1) → mW G kX1_sortBeside d b 69 [some (.inr (some a)), some (.inl v1), some (.inl v2), some (.inl v3), some (.inl w1), some (.inr (some (a + 6))), some (.inr (some (a + 6))), none, none, none, none, none] ([.inl w15, .inl w14]) h Q := by
            intro w15 ew15
            replace K := K w15 ew15
            refine mw_iadd (pc' := 70) dX1_sortBeside_69 rfl ?_
            refine mw_istore (pc' := 72) dX1_sortBeside_70 rfl (by decide) ?_
            show mW _ _ _ _ _ [some (.inr (some a)), some (.inl v1), some (.inl v2), some (.inl v3), some (.inl w1), some (.inr (some (a + 6))), some (.inr (some (a + 6))), some (.inl (w14 + w15)), none, none, none, none] _ _ _
            refine mw_iload (pc' := 74) dX1_sortBeside_72 rfl rfl ?_
            have J20 : ∀ w16 : Int32, w16 = (if w1 = 0 then v3 else v2) → mW G kX1_sortBeside d b 82 [some (.inr (some a)), some (.inl v1), some (.inl v2), some (.inl v3), some (.inl w1), some (.inr (some (a + 6))), some (.inr (some (a + 6))), some (.inl (w14 + w15)), none, none, none, none] ([.inl w16]) h Q := by
              intro w16 ew16
              replace K := K w16 ew16
              refine mw_istore (pc' := 84) dX1_sortBeside_82 rfl (by decide) ?_
              show mW _ _ _ _ _ [some (.inr (some a)), some (.inl v1), some (.inl v2), some (.inl v3), some (.inl w1), some (.inr (some (a + 6))), some (.inr (some (a + 6))), some (.inl (w14 + w15)), some (.inl w16), none, none, none] _ _ _
              refine mw_iload (pc' := 86) dX1_sortBeside_84 rfl rfl ?_
              have J18 : ∀ w17 : Int32, w17 = (if w1 = 0 then 1 else 0) → mW G kX1_sortBeside d b 94 [some (.inr (some a)), some (.inl v1), some (.inl v2), some (.inl v3), some (.inl w1), some (.inr (some (a + 6))), some (.inr (some (a + 6))), some (.inl (w14 + w15)), some (.inl w16), none, none, none] ([.inl w17]) h Q := by
                intro w17 ew17
                replace K := K w17 ew17
                refine mw_istore (pc' := 96) dX1_sortBeside_94 rfl (by decide) ?_
                show mW _ _ _ _ _ [some (.inr (some a)), some (.inl v1), some (.inl v2), some (.inl v3), some (.inl w1), some (.inr (some (a + 6))), some (.inr (some (a + 6))), some (.inl (w14 + w15)), some (.inl w16), some (.inl w17), none, none] _ _ _
                refine mw_weak (ls' := [some (.inr (some a)), none, none, none, none, some (.inr (some (a + 6))), some (.inr (some (a + 6))), some (.inl (w14 + w15)), some (.inl w16), some (.inl w17), none, none]) ?_ ?_
                · intro i v hv; match i, hv with
                  | 0, hv => exact hv
                  | 1, hv => cases hv
                  | 2, hv => cases hv
                  | 3, hv => cases hv
                  | 4, hv => cases hv
                  | 5, hv => exact hv
                  | 6, hv => exact hv
                  | 7, hv => exact hv
                  | 8, hv => exact hv
                  | 9, hv => exact hv
                  | 10, hv => cases hv
                  | 11, hv => cases hv
                  | n + 12, hv => cases hv
                exact K
              refine mw_if_eq (pc' := 89) (tgt := 93) dX1_sortBeside_86 rfl (by decide) (fun c19 => ?_) (fun c19 => ?_)
              · refine mw_iconst (pc' := 94) (v := 1) dX1_sortBeside_93 rfl (by decide) ?_
                exact J18 _ (by rw [if_pos c19])
              · refine mw_iconst (pc' := 90) (v := 0) dX1_sortBeside_89 rfl (by decide) ?_
                refine mw_goto (tgt := 94) dX1_sortBeside_90 (by decide) ?_
                exact J18 _ (by rw [if_neg c19])
            refine mw_if_eq (pc' := 77) (tgt := 81) dX1_sortBeside_74 rfl (by decide) (fun c21 => ?_) (fun c21 => ?_)
            · refine mw_iload_n (pc' := 82) dX1_sortBeside_81 rfl rfl ?_
              exact J20 _ (by rw [if_pos c21])
            · refine mw_iload_n (pc' := 78) dX1_sortBeside_77 rfl rfl ?_
              refine mw_goto (tgt := 82) dX1_sortBeside_78 (by decide) ?_
              exact J20 _ (by rw [if_neg c21])
          refine mw_icmp_ge (pc' := 64) (tgt := 68) dX1_sortBeside_61 rfl (by decide) (fun c23 => ?_) (fun c23 => ?_)
          · refine mw_iconst (pc' := 69) (v := 0) dX1_sortBeside_68 rfl (by decide) ?_
            exact J22 _ (by rw [if_pos c23])
          · refine mw_iconst (pc' := 65) (v := 1) dX1_sortBeside_64 rfl (by decide) ?_
            refine mw_goto (tgt := 69) dX1_sortBeside_65 (by decide) ?_
            exact J22 _ (by rw [if_neg c23])
        refine mw_if_eq (pc' := 54) (tgt := 58) dX1_sortBeside_51 rfl (by decide) (fun c25 => ?_) (fun c25 => ?_)
        · refine mw_iload_n (pc' := 59) dX1_sortBeside_58 rfl rfl ?_
          exact J24 _ (by rw [if_pos c25])
        · refine mw_iload_n (pc' := 55) dX1_sortBeside_54 rfl rfl ?_
          refine mw_goto (tgt := 59) dX1_sortBeside_55 (by decide) ?_
          exact J24 _ (by rw [if_neg c25])
    · replace K := K.2 c52
      refine mw_aload_n (pc' := 19) dX1_sortBeside_18 rfl rfl ?_
      refine mw_getR (pc' := 22) dX1_sortBeside_19 rfl flX1_38 rfl (ta) ?_
      rw [skBR_1_3 hS ta]
      refine mw_goto (tgt := 29) dX1_sortBeside_22 (by decide) ?_
      refine mw_astore (pc' := 31) dX1_sortBeside_29 rfl (by decide) ?_
      show mW _ _ _ _ _ [some (.inr (some a)), some (.inl v1), some (.inl v2), some (.inl v3), some (.inl w1), some (.inr (some (a + 7))), none, none, none, none, none, none] _ _ _
      refine mw_iload (pc' := 33) dX1_sortBeside_31 rfl rfl ?_
      refine mw_if_eq (pc' := 36) (tgt := 43) dX1_sortBeside_33 rfl (by decide) (fun c51 => ?_) (fun c51 => ?_)
      · replace K := K.1 c51
        refine mw_aload_n (pc' := 44) dX1_sortBeside_43 rfl rfl ?_
        refine mw_getR (pc' := 47) dX1_sortBeside_44 rfl flX1_38 rfl (ta) ?_
        rw [skBR_1_3 hS ta]
        refine mw_astore (pc' := 49) dX1_sortBeside_47 rfl (by decide) ?_
        show mW _ _ _ _ _ [some (.inr (some a)), some (.inl v1), some (.inl v2), some (.inl v3), some (.inl w1), some (.inr (some (a + 7))), some (.inr (some (a + 7))), none, none, none, none, none] _ _ _
        refine mw_iload (pc' := 51) dX1_sortBeside_49 rfl rfl ?_
        have J37 : ∀ w27 : Int32, w27 = (if w1 = 0 then v2 else v3) → mW G kX1_sortBeside d b 59 [some (.inr (some a)), some (.inl v1), some (.inl v2), some (.inl v3), some (.inl w1), some (.inr (some (a + 7))), some (.inr (some (a + 7))), none, none, none, none, none] ([.inl w27]) h Q := by
          intro w27 ew27
          replace K := K w27 ew27
          refine mw_iload_n (pc' := 60) dX1_sortBeside_59 rfl rfl ?_
          refine mw_iconst (pc' := 61) (v := 2) dX1_sortBeside_60 rfl (by decide) ?_
          have J35 : ∀ w28 : Int32, w28 = (if 2 ≤ v1 then 0 else 1) → mW G kX1_sortBeside d b 69 [some (.inr (some a)), some (.inl v1), some (.inl v2), some (.inl v3), some (.inl w1), some (.inr (some (a + 7))), some (.inr (some (a + 7))), none, none, none, none, none] ([.inl w28, .inl w27]) h Q := by
            intro w28 ew28
            replace K := K w28 ew28
            refine mw_iadd (pc' := 70) dX1_sortBeside_69 rfl ?_
            refine mw_istore (pc' := 72) dX1_sortBeside_70 rfl (by decide) ?_
            show mW _ _ _ _ _ [some (.inr (some a)), some (.inl v1), some (.inl v2), some (.inl v3), some (.inl w1), some (.inr (some (a + 7))), some (.inr (some (a + 7))), some (.inl (w27 + w28)), none, none, none, none] _ _ _
            refine mw_iload (pc' := 74) dX1_sortBeside_72 rfl rfl ?_
            have J33 : ∀ w29 : Int32, w29 = (if w1 = 0 then v3 else v2) → mW G kX1_sortBeside d b 82 [some (.inr (some a)), some (.inl v1), some (.inl v2), some (.inl v3), some (.inl w1), some (.inr (some (a + 7))), some (.inr (some (a + 7))), some (.inl (w27 + w28)), none, none, none, none] ([.inl w29]) h Q := by
              intro w29 ew29
              replace K := K w29 ew29
              refine mw_istore (pc' := 84) dX1_sortBeside_82 rfl (by decide) ?_
              show mW _ _ _ _ _ [some (.inr (some a)), some (.inl v1), some (.inl v2), some (.inl v3), some (.inl w1), some (.inr (some (a + 7))), some (.inr (some (a + 7))), some (.inl (w27 + w28)), some (.inl w29), none, none, none] _ _ _
              refine mw_iload (pc' := 86) dX1_sortBeside_84 rfl rfl ?_
              have J31 : ∀ w30 : Int32, w30 = (if w1 = 0 then 1 else 0) → mW G kX1_sortBeside d b 94 [some (.inr (some a)), some (.inl v1), some (.inl v2), some (.inl v3), some (.inl w1), some (.inr (some (a + 7))), some (.inr (some (a + 7))), some (.inl (w27 + w28)), some (.inl w29), none, none, none] ([.inl w30]) h Q := by
                intro w30 ew30
                replace K := K w30 ew30
                refine mw_istore (pc' := 96) dX1_sortBeside_94 rfl (by decide) ?_
                show mW _ _ _ _ _ [some (.inr (some a)), some (.inl v1), some (.inl v2), some (.inl v3), some (.inl w1), some (.inr (some (a + 7))), some (.inr (some (a + 7))), some (.inl (w27 + w28)), some (.inl w29), some (.inl w30), none, none] _ _ _
                refine mw_weak (ls' := [some (.inr (some a)), none, none, none, none, some (.inr (some (a + 7))), some (.inr (some (a + 7))), some (.inl (w27 + w28)), some (.inl w29), some (.inl w30), none, none]) ?_ ?_
                · intro i v hv; match i, hv with
                  | 0, hv => exact hv
                  | 1, hv => cases hv
                  | 2, hv => cases hv
                  | 3, hv => cases hv
                  | 4, hv => cases hv
                  | 5, hv => exact hv
                  | 6, hv => exact hv
                  | 7, hv => exact hv
                  | 8, hv => exact hv
                  | 9, hv => exact hv
                  | 10, hv => cases hv
                  | 11, hv => cases hv
                  | n + 12, hv => cases hv
                exact K
              refine mw_if_eq (pc' := 89) (tgt := 93) dX1_sortBeside_86 rfl (by decide) (fun c32 => ?_) (fun c32 => ?_)
              · refine mw_iconst (pc' := 94) (v := 1) dX1_sortBeside_93 rfl (by decide) ?_
                exact J31 _ (by rw [if_pos c32])
              · refine mw_iconst (pc' := 90) (v := 0) dX1_sortBeside_89 rfl (by decide) ?_
                refine mw_goto (tgt := 94) dX1_sortBeside_90 (by decide) ?_
                exact J31 _ (by rw [if_neg c32])
            refine mw_if_eq (pc' := 77) (tgt := 81) dX1_sortBeside_74 rfl (by decide) (fun c34 => ?_) (fun c34 => ?_)
            · refine mw_iload_n (pc' := 82) dX1_sortBeside_81 rfl rfl ?_
              exact J33 _ (by rw [if_pos c34])
            · refine mw_iload_n (pc' := 78) dX1_sortBeside_77 rfl rfl ?_
              refine mw_goto (tgt := 82) dX1_sortBeside_78 (by decide) ?_
              exact J33 _ (by rw [if_neg c34])
          refine mw_icmp_ge (pc' := 64) (tgt := 68) dX1_sortBeside_61 rfl (by decide) (fun c36 => ?_) (fun c36 => ?_)
          · refine mw_iconst (pc' := 69) (v := 0) dX1_sortBeside_68 rfl (by decide) ?_
            exact J35 _ (by rw [if_pos c36])
          · refine mw_iconst (pc' := 65) (v := 1) dX1_sortBeside_64 rfl (by decide) ?_
            refine mw_goto (tgt := 69) dX1_sortBeside_65 (by decide) ?_
            exact J35 _ (by rw [if_neg c36])
        refine mw_if_eq (pc' := 54) (tgt := 58) dX1_sortBeside_51 rfl (by decide) (fun c38 => ?_) (fun c38 => ?_)
        · refine mw_iload_n (pc' := 59) dX1_sortBeside_58 rfl rfl ?_
          exact J37 _ (by rw [if_pos c38])
        · refine mw_iload_n (pc' := 55) dX1_sortBeside_54 rfl rfl ?_
          refine mw_goto (tgt := 59) dX1_sortBeside_55 (by decide) ?_
          exact J37 _ (by rw [if_neg c38])
      · replace K := K.2 c51
        refine mw_aload_n (pc' := 37) dX1_sortBeside_36 rfl rfl ?_
        refine mw_getR (pc' := 40) dX1_sortBeside_37 rfl flX1_35 rfl (ta) ?_
        rw [skBR_1_2 hS ta]
        refine mw_goto (tgt := 47) dX1_sortBeside_40 (by decide) ?_
        refine mw_astore (pc' := 49) dX1_sortBeside_47 rfl (by decide) ?_
        show mW _ _ _ _ _ [some (.inr (some a)), some (.inl v1), some (.inl v2), some (.inl v3), some (.inl w1), some (.inr (some (a + 7))), some (.inr (some (a + 6))), none, none, none, none, none] _ _ _
        refine mw_iload (pc' := 51) dX1_sortBeside_49 rfl rfl ?_
        have J49 : ∀ w39 : Int32, w39 = (if w1 = 0 then v2 else v3) → mW G kX1_sortBeside d b 59 [some (.inr (some a)), some (.inl v1), some (.inl v2), some (.inl v3), some (.inl w1), some (.inr (some (a + 7))), some (.inr (some (a + 6))), none, none, none, none, none] ([.inl w39]) h Q := by
          intro w39 ew39
          replace K := K w39 ew39
          refine mw_iload_n (pc' := 60) dX1_sortBeside_59 rfl rfl ?_
          refine mw_iconst (pc' := 61) (v := 2) dX1_sortBeside_60 rfl (by decide) ?_
          have J47 : ∀ w40 : Int32, w40 = (if 2 ≤ v1 then 0 else 1) → mW G kX1_sortBeside d b 69 [some (.inr (some a)), some (.inl v1), some (.inl v2), some (.inl v3), some (.inl w1), some (.inr (some (a + 7))), some (.inr (some (a + 6))), none, none, none, none, none] ([.inl w40, .inl w39]) h Q := by
            intro w40 ew40
            replace K := K w40 ew40
            refine mw_iadd (pc' := 70) dX1_sortBeside_69 rfl ?_
            refine mw_istore (pc' := 72) dX1_sortBeside_70 rfl (by decide) ?_
            show mW _ _ _ _ _ [some (.inr (some a)), some (.inl v1), some (.inl v2), some (.inl v3), some (.inl w1), some (.inr (some (a + 7))), some (.inr (some (a + 6))), some (.inl (w39 + w40)), none, none, none, none] _ _ _
            refine mw_iload (pc' := 74) dX1_sortBeside_72 rfl rfl ?_
            have J45 : ∀ w41 : Int32, w41 = (if w1 = 0 then v3 else v2) → mW G kX1_sortBeside d b 82 [some (.inr (some a)), some (.inl v1), some (.inl v2), some (.inl v3), some (.inl w1), some (.inr (some (a + 7))), some (.inr (some (a + 6))), some (.inl (w39 + w40)), none, none, none, none] ([.inl w41]) h Q := by
              intro w41 ew41
              replace K := K w41 ew41
              refine mw_istore (pc' := 84) dX1_sortBeside_82 rfl (by decide) ?_
              show mW _ _ _ _ _ [some (.inr (some a)), some (.inl v1), some (.inl v2), some (.inl v3), some (.inl w1), some (.inr (some (a + 7))), some (.inr (some (a + 6))), some (.inl (w39 + w40)), some (.inl w41), none, none, none] _ _ _
              refine mw_iload (pc' := 86) dX1_sortBeside_84 rfl rfl ?_
              have J43 : ∀ w42 : Int32, w42 = (if w1 = 0 then 1 else 0) → mW G kX1_sortBeside d b 94 [some (.inr (some a)), some (.inl v1), some (.inl v2), some (.inl v3), some (.inl w1), some (.inr (some (a + 7))), some (.inr (some (a + 6))), some (.inl (w39 + w40)), some (.inl w41), none, none, none] ([.inl w42]) h Q := by
                intro w42 ew42
                replace K := K w42 ew42
                refine mw_istore (pc' := 96) dX1_sortBeside_94 rfl (by decide) ?_
                show mW _ _ _ _ _ [some (.inr (some a)), some (.inl v1), some (.inl v2), some (.inl v3), some (.inl w1), some (.inr (some (a + 7))), some (.inr (some (a + 6))), some (.inl (w39 + w40)), some (.inl w41), some (.inl w42), none, none] _ _ _
                refine mw_weak (ls' := [some (.inr (some a)), none, none, none, none, some (.inr (some (a + 7))), some (.inr (some (a + 6))), some (.inl (w39 + w40)), some (.inl w41), some (.inl w42), none, none]) ?_ ?_
                · intro i v hv; match i, hv with
                  | 0, hv => exact hv
                  | 1, hv => cases hv
                  | 2, hv => cases hv
                  | 3, hv => cases hv
                  | 4, hv => cases hv
                  | 5, hv => exact hv
                  | 6, hv => exact hv
                  | 7, hv => exact hv
                  | 8, hv => exact hv
                  | 9, hv => exact hv
                  | 10, hv => cases hv
                  | 11, hv => cases hv
                  | n + 12, hv => cases hv
                exact K
              refine mw_if_eq (pc' := 89) (tgt := 93) dX1_sortBeside_86 rfl (by decide) (fun c44 => ?_) (fun c44 => ?_)
              · refine mw_iconst (pc' := 94) (v := 1) dX1_sortBeside_93 rfl (by decide) ?_
                exact J43 _ (by rw [if_pos c44])
              · refine mw_iconst (pc' := 90) (v := 0) dX1_sortBeside_89 rfl (by decide) ?_
                refine mw_goto (tgt := 94) dX1_sortBeside_90 (by decide) ?_
                exact J43 _ (by rw [if_neg c44])
            refine mw_if_eq (pc' := 77) (tgt := 81) dX1_sortBeside_74 rfl (by decide) (fun c46 => ?_) (fun c46 => ?_)
            · refine mw_iload_n (pc' := 82) dX1_sortBeside_81 rfl rfl ?_
              exact J45 _ (by rw [if_pos c46])
            · refine mw_iload_n (pc' := 78) dX1_sortBeside_77 rfl rfl ?_
              refine mw_goto (tgt := 82) dX1_sortBeside_78 (by decide) ?_
              exact J45 _ (by rw [if_neg c46])
          refine mw_icmp_ge (pc' := 64) (tgt := 68) dX1_sortBeside_61 rfl (by decide) (fun c48 => ?_) (fun c48 => ?_)
          · refine mw_iconst (pc' := 69) (v := 0) dX1_sortBeside_68 rfl (by decide) ?_
            exact J47 _ (by rw [if_pos c48])
          · refine mw_iconst (pc' := 65) (v := 1) dX1_sortBeside_64 rfl (by decide) ?_
            refine mw_goto (tgt := 69) dX1_sortBeside_65 (by decide) ?_
            exact J47 _ (by rw [if_neg c48])
        refine mw_if_eq (pc' := 54) (tgt := 58) dX1_sortBeside_51 rfl (by decide) (fun c50 => ?_) (fun c50 => ?_)
        · refine mw_iload_n (pc' := 59) dX1_sortBeside_58 rfl rfl ?_
          exact J49 _ (by rw [if_pos c50])
        · refine mw_iload_n (pc' := 55) dX1_sortBeside_54 rfl rfl ?_
          refine mw_goto (tgt := 59) dX1_sortBeside_55 (by decide) ?_
          exact J49 _ (by rw [if_neg c50])
  refine mw_if_ne (pc' := 6) (tgt := 10) dX1_sortBeside_3 rfl (by decide) (fun c54 => ?_) (fun c54 => ?_)
  · refine mw_iconst (pc' := 11) (v := 0) dX1_sortBeside_10 rfl (by decide) ?_
    exact J53 _ (by rw [if_pos c54])
  · refine mw_iconst (pc' := 7) (v := 1) dX1_sortBeside_6 rfl (by decide) ?_
    refine mw_goto (tgt := 11) dX1_sortBeside_7 (by decide) ?_
    exact J53 _ (by rw [if_neg (fun z => z c54)])

set_option maxRecDepth 100000 in
set_option maxHeartbeats 4000000 in
theorem qX1_sortBeside_96 {G : mG} {d : Nat} {b : Nat × Nat} {h : mH} {Q : Option mV → mH → Prop} (a0 : Nat) (a5 : Nat) (a6 : Nat) (v7 : Int32) (v8 : Int32) (v9 : Int32) (ta0 : mT h a0 = 2) (ta5 : mT h a5 = 100) (ta6 : mT h a6 = 100) (hS : mSk h)
    (K : (((mI h a0 1) ≤ v9 → Q (some (.inl 0)) h) ∧ (¬ ((mI h a0 1) ≤ v9) → ∀ w1 : Int32, w1 = (if (mI h a0 1) ≤ (v9 + 1) then 0 else (v9 + 1)) → vp_in w1 (mL h a6) ∧ vp_in v9 (mL h a6) ∧ ∀ w4 : Int32, w4 = (if v8 < (mI h a6 v9.toNatClampNeg) then 0 else 1) → ∀ w5 : Int32, w5 = (if v8 < (mI h a6 w1.toNatClampNeg) then 0 else 1) → ∀ w6 : Int32, w6 = (if w4 = w5 then 0 else 1) → vp_in v9 (mL h a5) ∧ ((¬ (mI h a5 v9.toNatClampNeg) = v7 → mW G kX1_sortBeside d b 96 [some (.inr (some a0)), none, none, none, none, some (.inr (some a5)), some (.inr (some a6)), some (.inl v7), some (.inl v8), some (.inl (v9 + 2)), none, none] [] h Q) ∧ ((mI h a5 v9.toNatClampNeg) = v7 → ((w6 = 0 → mW G kX1_sortBeside d b 96 [some (.inr (some a0)), none, none, none, none, some (.inr (some a5)), some (.inr (some a6)), some (.inl v7), some (.inl v8), some (.inl (v9 + 2)), none, none] [] h Q) ∧ (¬ w6 = 0 → vp_in v9 16 ∧ Q (some (.inl (mI h (a0 + 8) v9.toNatClampNeg))) h))))))) : mW G kX1_sortBeside d b 96 [some (.inr (some a0)), none, none, none, none, some (.inr (some a5)), some (.inr (some a6)), some (.inl v7), some (.inl v8), some (.inl v9), none, none] [] h Q := by
  refine mw_iload (pc' := 98) dX1_sortBeside_96 rfl rfl ?_
  refine mw_aload_n (pc' := 99) dX1_sortBeside_98 rfl rfl ?_
  refine mw_getI (pc' := 102) dX1_sortBeside_99 rfl flX1_32 rfl (ta0) ?_
  refine mw_icmp_ge (pc' := 105) (tgt := 195) dX1_sortBeside_102 rfl (by decide) (fun c19 => ?_) (fun c19 => ?_)
  · replace K := K.1 c19
    refine mw_iconst (pc' := 196) (v := 0) dX1_sortBeside_195 rfl (by decide) ?_
    exact mw_iret dX1_sortBeside_196 rfl rfl K
  · replace K := K.2 c19
    refine mw_aload (pc' := 107) dX1_sortBeside_105 rfl rfl ?_
    refine mw_iload (pc' := 109) dX1_sortBeside_107 rfl rfl ?_
    refine mw_iconst (pc' := 110) (v := 1) dX1_sortBeside_109 rfl (by decide) ?_
    refine mw_iadd (pc' := 111) dX1_sortBeside_110 rfl ?_
    refine mw_aload_n (pc' := 112) dX1_sortBeside_111 rfl rfl ?_
    refine mw_getI (pc' := 115) dX1_sortBeside_112 rfl flX1_32 rfl (ta0) ?_
    have J17 : ∀ w1 : Int32, w1 = (if (mI h a0 1) ≤ (v9 + 1) then 0 else (v9 + 1)) → mW G kX1_sortBeside d b 126 [some (.inr (some a0)), none, none, none, none, some (.inr (some a5)), some (.inr (some a6)), some (.inl v7), some (.inl v8), some (.inl v9), none, none] ([.inl w1, .inr (some a6)]) h Q := by
      intro w1 ew1
      replace K := K w1 ew1
      obtain ⟨o2, K⟩ := K
      refine mw_ialdL (pc' := 127) dX1_sortBeside_126 rfl (ta6) (rfl) o2 ?_
      refine mw_istore (pc' := 129) dX1_sortBeside_127 rfl (by decide) ?_
      show mW _ _ _ _ _ [some (.inr (some a0)), none, none, none, none, some (.inr (some a5)), some (.inr (some a6)), some (.inl v7), some (.inl v8), some (.inl v9), some (.inl (mI h a6 w1.toNatClampNeg)), none] _ _ _
      refine mw_aload (pc' := 131) dX1_sortBeside_129 rfl rfl ?_
      refine mw_iload (pc' := 133) dX1_sortBeside_131 rfl rfl ?_
      obtain ⟨o3, K⟩ := K
      refine mw_ialdL (pc' := 134) dX1_sortBeside_133 rfl (ta6) (rfl) o3 ?_
      refine mw_iload (pc' := 136) dX1_sortBeside_134 rfl rfl ?_
      have J15 : ∀ w4 : Int32, w4 = (if v8 < (mI h a6 v9.toNatClampNeg) then 0 else 1) → mW G kX1_sortBeside d b 144 [some (.inr (some a0)), none, none, none, none, some (.inr (some a5)), some (.inr (some a6)), some (.inl v7), some (.inl v8), some (.inl v9), some (.inl (mI h a6 w1.toNatClampNeg)), none] ([.inl w4]) h Q := by
        intro w4 ew4
        replace K := K w4 ew4
        refine mw_iload (pc' := 146) dX1_sortBeside_144 rfl rfl ?_
        refine mw_iload (pc' := 148) dX1_sortBeside_146 rfl rfl ?_
        have J13 : ∀ w5 : Int32, w5 = (if v8 < (mI h a6 w1.toNatClampNeg) then 0 else 1) → mW G kX1_sortBeside d b 156 [some (.inr (some a0)), none, none, none, none, some (.inr (some a5)), some (.inr (some a6)), some (.inl v7), some (.inl v8), some (.inl v9), some (.inl (mI h a6 w1.toNatClampNeg)), none] ([.inl w5, .inl w4]) h Q := by
          intro w5 ew5
          replace K := K w5 ew5
          have J11 : ∀ w6 : Int32, w6 = (if w4 = w5 then 0 else 1) → mW G kX1_sortBeside d b 164 [some (.inr (some a0)), none, none, none, none, some (.inr (some a5)), some (.inr (some a6)), some (.inl v7), some (.inl v8), some (.inl v9), some (.inl (mI h a6 w1.toNatClampNeg)), none] ([.inl w6]) h Q := by
            intro w6 ew6
            replace K := K w6 ew6
            refine mw_istore (pc' := 166) dX1_sortBeside_164 rfl (by decide) ?_
            show mW _ _ _ _ _ [some (.inr (some a0)), none, none, none, none, some (.inr (some a5)), some (.inr (some a6)), some (.inl v7), some (.inl v8), some (.inl v9), some (.inl (mI h a6 w1.toNatClampNeg)), some (.inl w6)] _ _ _
            refine mw_aload (pc' := 168) dX1_sortBeside_166 rfl rfl ?_
            refine mw_iload (pc' := 170) dX1_sortBeside_168 rfl rfl ?_
            obtain ⟨o7, K⟩ := K
            refine mw_ialdL (pc' := 171) dX1_sortBeside_170 rfl (ta5) (rfl) o7 ?_
            refine mw_iload (pc' := 173) dX1_sortBeside_171 rfl rfl ?_
            refine mw_icmp_ne (pc' := 176) (tgt := 189) dX1_sortBeside_173 rfl (by decide) (fun c10 => ?_) (fun c10 => ?_)
            · replace K := K.1 c10
              refine mw_iinc (pc' := 192) (v := v9 + 2) dX1_sortBeside_189 rfl (by decide) rfl rfl ?_
              show mW _ _ _ _ _ [some (.inr (some a0)), none, none, none, none, some (.inr (some a5)), some (.inr (some a6)), some (.inl v7), some (.inl v8), some (.inl (v9 + 2)), some (.inl (mI h a6 w1.toNatClampNeg)), some (.inl w6)] _ _ _
              refine mw_goto (tgt := 96) dX1_sortBeside_192 (by decide) ?_
              refine mw_weak (ls' := [some (.inr (some a0)), none, none, none, none, some (.inr (some a5)), some (.inr (some a6)), some (.inl v7), some (.inl v8), some (.inl (v9 + 2)), none, none]) ?_ ?_
              · intro i v hv; match i, hv with
                | 0, hv => exact hv
                | 1, hv => cases hv
                | 2, hv => cases hv
                | 3, hv => cases hv
                | 4, hv => cases hv
                | 5, hv => exact hv
                | 6, hv => exact hv
                | 7, hv => exact hv
                | 8, hv => exact hv
                | 9, hv => exact hv
                | 10, hv => cases hv
                | 11, hv => cases hv
                | n + 12, hv => cases hv
              exact K
            · replace K := K.2 c10
              refine mw_iload (pc' := 178) dX1_sortBeside_176 rfl rfl ?_
              refine mw_if_eq (pc' := 181) (tgt := 189) dX1_sortBeside_178 rfl (by decide) (fun c9 => ?_) (fun c9 => ?_)
              · replace K := K.1 c9
                refine mw_iinc (pc' := 192) (v := v9 + 2) dX1_sortBeside_189 rfl (by decide) rfl rfl ?_
                show mW _ _ _ _ _ [some (.inr (some a0)), none, none, none, none, some (.inr (some a5)), some (.inr (some a6)), some (.inl v7), some (.inl v8), some (.inl (v9 + 2)), some (.inl (mI h a6 w1.toNatClampNeg)), some (.inl w6)] _ _ _
                refine mw_goto (tgt := 96) dX1_sortBeside_192 (by decide) ?_
                refine mw_weak (ls' := [some (.inr (some a0)), none, none, none, none, some (.inr (some a5)), some (.inr (some a6)), some (.inl v7), some (.inl v8), some (.inl (v9 + 2)), none, none]) ?_ ?_
                · intro i v hv; match i, hv with
                  | 0, hv => exact hv
                  | 1, hv => cases hv
                  | 2, hv => cases hv
                  | 3, hv => cases hv
                  | 4, hv => cases hv
                  | 5, hv => exact hv
                  | 6, hv => exact hv
                  | 7, hv => exact hv
                  | 8, hv => exact hv
                  | 9, hv => exact hv
                  | 10, hv => cases hv
                  | 11, hv => cases hv
                  | n + 12, hv => cases hv
                exact K
              · replace K := K.2 c9
                refine mw_aload_n (pc' := 182) dX1_sortBeside_181 rfl rfl ?_
                refine mw_getR (pc' := 185) dX1_sortBeside_182 rfl flX1_41 rfl (ta0) ?_
                rw [skBR_1_4 hS ta0]
                refine mw_iload (pc' := 187) dX1_sortBeside_185 rfl rfl ?_
                obtain ⟨o8, K⟩ := K
                refine mw_ialdL (pc' := 188) dX1_sortBeside_187 rfl (skBT_1_8 hS ta0) (skBL_1_8 hS ta0) o8 ?_
                exact mw_iret dX1_sortBeside_188 rfl rfl K
          refine mw_icmp_eq (pc' := 159) (tgt := 163) dX1_sortBeside_156 rfl (by decide) (fun c12 => ?_) (fun c12 => ?_)
          · refine mw_iconst (pc' := 164) (v := 0) dX1_sortBeside_163 rfl (by decide) ?_
            exact J11 _ (by rw [if_pos c12])
          · refine mw_iconst (pc' := 160) (v := 1) dX1_sortBeside_159 rfl (by decide) ?_
            refine mw_goto (tgt := 164) dX1_sortBeside_160 (by decide) ?_
            exact J11 _ (by rw [if_neg c12])
        refine mw_icmp_gt (pc' := 151) (tgt := 155) dX1_sortBeside_148 rfl (by decide) (fun c14 => ?_) (fun c14 => ?_)
        · refine mw_iconst (pc' := 156) (v := 0) dX1_sortBeside_155 rfl (by decide) ?_
          exact J13 _ (by rw [if_pos c14])
        · refine mw_iconst (pc' := 152) (v := 1) dX1_sortBeside_151 rfl (by decide) ?_
          refine mw_goto (tgt := 156) dX1_sortBeside_152 (by decide) ?_
          exact J13 _ (by rw [if_neg c14])
      refine mw_icmp_gt (pc' := 139) (tgt := 143) dX1_sortBeside_136 rfl (by decide) (fun c16 => ?_) (fun c16 => ?_)
      · refine mw_iconst (pc' := 144) (v := 0) dX1_sortBeside_143 rfl (by decide) ?_
        exact J15 _ (by rw [if_pos c16])
      · refine mw_iconst (pc' := 140) (v := 1) dX1_sortBeside_139 rfl (by decide) ?_
        refine mw_goto (tgt := 144) dX1_sortBeside_140 (by decide) ?_
        exact J15 _ (by rw [if_neg c16])
    refine mw_icmp_ge (pc' := 118) (tgt := 125) dX1_sortBeside_115 rfl (by decide) (fun c18 => ?_) (fun c18 => ?_)
    · refine mw_iconst (pc' := 126) (v := 0) dX1_sortBeside_125 rfl (by decide) ?_
      exact J17 _ (by rw [if_pos c18])
    · refine mw_iload (pc' := 120) dX1_sortBeside_118 rfl rfl ?_
      refine mw_iconst (pc' := 121) (v := 1) dX1_sortBeside_120 rfl (by decide) ?_
      refine mw_iadd (pc' := 122) dX1_sortBeside_121 rfl ?_
      refine mw_goto (tgt := 126) dX1_sortBeside_122 (by decide) ?_
      exact J17 _ (by rw [if_neg c18])

set_option maxRecDepth 100000 in
set_option maxHeartbeats 4000000 in
theorem qX1_rowsAt {G : mG} {d : Nat} {b : Nat × Nat} {h : mH} {Q : Option mV → mH → Prop} (a : Nat) (v1 : Int32) (v2 : Int32) (ta : mT h a = 2) (hS : mSk h)
    (K : Q (some (.inl (((v1 * 4) + v2) * 32))) h) : mC G kX1_rowsAt d b [.inr (some a), .inl v1, .inl v2] h Q := by
  refine mC_in rfl (Nat.le_of_ble_eq_true rfl) ?_
  show mW _ _ _ _ _ [some (.inr (some a)), some (.inl v1), some (.inl v2)] _ _ _
  refine mw_iload_n (pc' := 1) dX1_rowsAt_0 rfl rfl ?_
  refine mw_iconst (pc' := 2) (v := 4) dX1_rowsAt_1 rfl (by decide) ?_
  refine mw_imul (pc' := 3) dX1_rowsAt_2 rfl ?_
  refine mw_iload_n (pc' := 4) dX1_rowsAt_3 rfl rfl ?_
  refine mw_iadd (pc' := 5) dX1_rowsAt_4 rfl ?_
  refine mw_bipush (pc' := 7) (v := 32) dX1_rowsAt_5 rfl (by decide) ?_
  refine mw_imul (pc' := 8) dX1_rowsAt_7 rfl ?_
  exact mw_iret dX1_rowsAt_8 rfl rfl K
