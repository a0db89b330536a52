set_option maxRecDepth 100000 in
set_option maxHeartbeats 4000000 in
theorem qX10_seek {G : mG} {d : Nat} {b : Nat × Nat} {h : mH} {Q : Option mV → mH → Prop} (a1 : Nat) (v2 : Int32) (v3 : Int32) (v4 : Int32) (ta1 : mT h a1 = 100) (hS : mSk h)
    (K : ((¬ (mI h 38 7) = v4 → ∀ h1, h1 = mSI h 38 7 v4 → ∀ h2, h2 = mSI h1 38 5 v2 → ∀ h3, h3 = mSI h2 38 6 v3 → ∀ w4 : Int32, w4 = (if ¬ v2 = v3 then 0 else 1) → ∀ h5, h5 = mSI h3 38 2 w4 → ∀ h6, h6 = mSI h5 38 3 0 → ∀ h7, h7 = mSI h6 38 4 0 → (((mI h7 38 2) = 0 → mC G kJ7_fill_53178 (d + 2) (0, 0) [.inr (some 39), .inl 0] h7 (fun r h8 => r = none ∧ mSk h8 ∧ mT h8 a1 = 100 ∧ mW G kX10_seek (d + 3) b 88 [some (.inr (some 38)), some (.inr (some a1)), none, none, none, some (.inl 1), some (.inl 0)] [] h8 Q)) ∧ (¬ (mI h7 38 2) = 0 → Q none h7))) ∧ ((mI h 38 7) = v4 → ((¬ (mI h 38 5) = v2 → ∀ h12, h12 = mSI h 38 7 v4 → ∀ h13, h13 = mSI h12 38 5 v2 → ∀ h14, h14 = mSI h13 38 6 v3 → ∀ w15 : Int32, w15 = (if ¬ v2 = v3 then 0 else 1) → ∀ h16, h16 = mSI h14 38 2 w15 → ∀ h17, h17 = mSI h16 38 3 0 → ∀ h18, h18 = mSI h17 38 4 0 → (((mI h18 38 2) = 0 → mC G kJ7_fill_53178 (d + 2) (0, 0) [.inr (some 39), .inl 0] h18 (fun r h19 => r = none ∧ mSk h19 ∧ mT h19 a1 = 100 ∧ mW G kX10_seek (d + 3) b 88 [some (.inr (some 38)), some (.inr (some a1)), none, none, none, some (.inl 1), some (.inl 0)] [] h19 Q)) ∧ (¬ (mI h18 38 2) = 0 → Q none h18))) ∧ ((mI h 38 5) = v2 → ((¬ (mI h 38 6) = v3 → ∀ h23, h23 = mSI h 38 7 v4 → ∀ h24, h24 = mSI h23 38 5 v2 → ∀ h25, h25 = mSI h24 38 6 v3 → ∀ w26 : Int32, w26 = (if ¬ v2 = v3 then 0 else 1) → ∀ h27, h27 = mSI h25 38 2 w26 → ∀ h28, h28 = mSI h27 38 3 0 → ∀ h29, h29 = mSI h28 38 4 0 → (((mI h29 38 2) = 0 → mC G kJ7_fill_53178 (d + 2) (0, 0) [.inr (some 39), .inl 0] h29 (fun r h30 => r = none ∧ mSk h30 ∧ mT h30 a1 = 100 ∧ mW G kX10_seek (d + 3) b 88 [some (.inr (some 38)), some (.inr (some a1)), none, none, none, some (.inl 1), some (.inl 0)] [] h30 Q)) ∧ (¬ (mI h29 38 2) = 0 → Q none h29))) ∧ ((mI h 38 6) = v3 → Q none h))))))) : mC G kX10_seek (d + 3) b [.inr (some 38), .inr (some a1), .inl v2, .inl v3, .inl v4] h Q := by
  refine mC_in rfl (Nat.le_of_ble_eq_true rfl) ?_
  show mW _ _ _ _ _ [some (.inr (some 38)), some (.inr (some a1)), some (.inl v2), some (.inl v3), some (.inl v4), none, none] _ _ _
  refine mw_aload_n (pc' := 1) dX10_seek_0 rfl rfl ?_
  refine mw_getI (pc' := 4) dX10_seek_1 rfl flX10_18 rfl (skT_38 hS) ?_
  refine mw_iload (pc' := 6) dX10_seek_4 rfl rfl ?_
  refine mw_icmp_ne (pc' := 9) (tgt := 26) dX10_seek_6 rfl (by decide) (fun c36 => ?_) (fun c36 => ?_)
  · replace K := K.1 c36
    refine mw_aload_n (pc' := 27) dX10_seek_26 rfl rfl ?_
    refine mw_iload (pc' := 29) dX10_seek_27 rfl rfl ?_
    refine mw_putIK (pc' := 32) dX10_seek_29 rfl flX10_18 rfl (Or.inl rfl) ⟨rfl, rfl⟩ (skT_38 hS) hS (fun h1 eh1 hS => ?_)
    replace K := K h1 eh1
    have ta1 : mT h1 a1 = 100 := by rw [eh1]; exact ta1
    refine mw_aload_n (pc' := 33) dX10_seek_32 rfl rfl ?_
    refine mw_iload_n (pc' := 34) dX10_seek_33 rfl rfl ?_
    refine mw_putIK (pc' := 37) dX10_seek_34 rfl flX10_22 rfl (Or.inl rfl) ⟨rfl, rfl⟩ (skT_38 hS) hS (fun h2 eh2 hS => ?_)
    replace K := K h2 eh2
    have ta1 : mT h2 a1 = 100 := by rw [eh2]; exact ta1
    refine mw_aload_n (pc' := 38) dX10_seek_37 rfl rfl ?_
    refine mw_iload_n (pc' := 39) dX10_seek_38 rfl rfl ?_
    refine mw_putIK (pc' := 42) dX10_seek_39 rfl flX10_25 rfl (Or.inl rfl) ⟨rfl, rfl⟩ (skT_38 hS) hS (fun h3 eh3 hS => ?_)
    replace K := K h3 eh3
    have ta1 : mT h3 a1 = 100 := by rw [eh3]; exact ta1
    refine mw_aload_n (pc' := 43) dX10_seek_42 rfl rfl ?_
    refine mw_iload_n (pc' := 44) dX10_seek_43 rfl rfl ?_
    refine mw_iload_n (pc' := 45) dX10_seek_44 rfl rfl ?_
    have J10 : ∀ w4 : Int32, w4 = (if ¬ v2 = v3 then 0 else 1) → mW G kX10_seek (d + 3) b 53 [some (.inr (some 38)), some (.inr (some a1)), some (.inl v2), some (.inl v3), some (.inl v4), none, none] ([.inl w4, .inr (some 38)]) h3 Q := by
      intro w4 ew4
      replace K := K w4 ew4
      refine mw_putIK (pc' := 56) dX10_seek_53 rfl flX10_28 rfl (Or.inl rfl) (m_boolP (by rw [ew4]; exact (m_boolI m_bool0 m_bool1))) (skT_38 hS) hS (fun h5 eh5 hS => ?_)
      replace K := K h5 eh5
      have ta1 : mT h5 a1 = 100 := by rw [eh5]; exact ta1
      refine mw_aload_n (pc' := 57) dX10_seek_56 rfl rfl ?_
      refine mw_iconst (pc' := 58) (v := 0) dX10_seek_57 rfl (by decide) ?_
      refine mw_putIK (pc' := 61) dX10_seek_58 rfl flX10_32 rfl (Or.inl rfl) ⟨rfl, rfl⟩ (skT_38 hS) hS (fun h6 eh6 hS => ?_)
      replace K := K h6 eh6
      have ta1 : mT h6 a1 = 100 := by rw [eh6]; exact ta1
      refine mw_aload_n (pc' := 62) dX10_seek_61 rfl rfl ?_
      refine mw_iconst (pc' := 63) (v := 0) dX10_seek_62 rfl (by decide) ?_
      refine mw_putIK (pc' := 66) dX10_seek_63 rfl flX10_35 rfl (Or.inl rfl) ⟨rfl, rfl⟩ (skT_38 hS) hS (fun h7 eh7 hS => ?_)
      replace K := K h7 eh7
      have ta1 : mT h7 a1 = 100 := by rw [eh7]; exact ta1
      refine mw_aload_n (pc' := 67) dX10_seek_66 rfl rfl ?_
      refine mw_getI (pc' := 70) dX10_seek_67 rfl flX10_28 rfl (skT_38 hS) ?_
      refine mw_if_eq (pc' := 73) (tgt := 74) dX10_seek_70 rfl (by decide) (fun c9 => ?_) (fun c9 => ?_)
      · replace K := K.1 c9
        refine mw_aload_n (pc' := 75) dX10_seek_74 rfl rfl ?_
        refine mw_getR (pc' := 78) dX10_seek_75 rfl flX10_9 rfl (skT_38 hS) ?_
        rw [skR_38_0 hS]
        refine mw_iconst (pc' := 79) (v := 0) dX10_seek_78 rfl (by decide) ?_
        refine mw_callS (pc' := 82) (b' := (0, 0)) (b1 := b) (av := [.inr (some 39), .inl 0]) (rest := []) dX10_seek_79 rfl lkX10_38 rfl rfl (Nat.le_of_ble_eq_true rfl) ⟨Nat.le_of_eq (Nat.zero_add _), Nat.le_of_eq (Nat.zero_add _)⟩ ?_
        refine mC_mono (fun r h8 hr => ?_) K
        obtain ⟨rfl, hS, ta1, K⟩ := hr
        show mW _ _ _ _ _ _ [] _ _
        refine mw_iconst (pc' := 83) (v := 1) dX10_seek_82 rfl (by decide) ?_
        refine mw_istore (pc' := 85) dX10_seek_83 rfl (by decide) ?_
        show mW _ _ _ _ _ [some (.inr (some 38)), some (.inr (some a1)), some (.inl v2), some (.inl v3), some (.inl v4), some (.inl 1), none] _ _ _
        refine mw_iconst (pc' := 86) (v := 0) dX10_seek_85 rfl (by decide) ?_
        refine mw_istore (pc' := 88) dX10_seek_86 rfl (by decide) ?_
        show mW _ _ _ _ _ [some (.inr (some 38)), some (.inr (some a1)), some (.inl v2), some (.inl v3), some (.inl v4), some (.inl 1), some (.inl 0)] _ _ _
        refine mw_weak (ls' := [some (.inr (some 38)), some (.inr (some a1)), none, none, none, some (.inl 1), some (.inl 0)]) ?_ ?_
        · intro i v hv; match i, hv with
          | 0, hv => exact hv
          | 1, hv => exact hv
          | 2, hv => cases hv
          | 3, hv => cases hv
          | 4, hv => cases hv
          | 5, hv => exact hv
          | 6, hv => exact hv
          | n + 7, hv => cases hv
        exact K
      · replace K := K.2 c9
        exact mw_ret dX10_seek_73 rfl K
    refine mw_icmp_ne (pc' := 48) (tgt := 52) dX10_seek_45 rfl (by decide) (fun c11 => ?_) (fun c11 => ?_)
    · refine mw_iconst (pc' := 53) (v := 0) dX10_seek_52 rfl (by decide) ?_
      exact J10 _ (by rw [if_pos c11])
    · refine mw_iconst (pc' := 49) (v := 1) dX10_seek_48 rfl (by decide) ?_
      refine mw_goto (tgt := 53) dX10_seek_49 (by decide) ?_
      exact J10 _ (by rw [if_neg (fun z => z c11)])
  · replace K := K.2 c36
    refine mw_aload_n (pc' := 10) dX10_seek_9 rfl rfl ?_
    refine mw_getI (pc' := 13) dX10_seek_10 rfl flX10_22 rfl (skT_38 hS) ?_
    refine mw_iload_n (pc' := 14) dX10_seek_13 rfl rfl ?_
    refine mw_icmp_ne (pc' := 17) (tgt := 26) dX10_seek_14 rfl (by decide) (fun c35 => ?_) (fun c35 => ?_)
    · replace K := K.1 c35
      refine mw_aload_n (pc' := 27) dX10_seek_26 rfl rfl ?_
      refine mw_iload (pc' := 29) dX10_seek_27 rfl rfl ?_
      refine mw_putIK (pc' := 32) dX10_seek_29 rfl flX10_18 rfl (Or.inl rfl) ⟨rfl, rfl⟩ (skT_38 hS) hS (fun h12 eh12 hS => ?_)
      replace K := K h12 eh12
      have ta1 : mT h12 a1 = 100 := by rw [eh12]; exact ta1
      refine mw_aload_n (pc' := 33) dX10_seek_32 rfl rfl ?_
      refine mw_iload_n (pc' := 34) dX10_seek_33 rfl rfl ?_
      refine mw_putIK (pc' := 37) dX10_seek_34 rfl flX10_22 rfl (Or.inl rfl) ⟨rfl, rfl⟩ (skT_38 hS) hS (fun h13 eh13 hS => ?_)
      replace K := K h13 eh13
      have ta1 : mT h13 a1 = 100 := by rw [eh13]; exact ta1
      refine mw_aload_n (pc' := 38) dX10_seek_37 rfl rfl ?_
      refine mw_iload_n (pc' := 39) dX10_seek_38 rfl rfl ?_
      refine mw_putIK (pc' := 42) dX10_seek_39 rfl flX10_25 rfl (Or.inl rfl) ⟨rfl, rfl⟩ (skT_38 hS) hS (fun h14 eh14 hS => ?_)
      replace K := K h14 eh14
      have ta1 : mT h14 a1 = 100 := by rw [eh14]; exact ta1
      refine mw_aload_n (pc' := 43) dX10_seek_42 rfl rfl ?_
      refine mw_iload_n (pc' := 44) dX10_seek_43 rfl rfl ?_
      refine mw_iload_n (pc' := 45) dX10_seek_44 rfl rfl ?_
      have J21 : ∀ w15 : Int32, w15 = (if ¬ v2 = v3 then 0 else 1) → mW G kX10_seek (d + 3) b 53 [some (.inr (some 38)), some (.inr (some a1)), some (.inl v2), some (.inl v3), some (.inl v4), none, none] ([.inl w15, .inr (some 38)]) h14 Q := by
        intro w15 ew15
        replace K := K w15 ew15
        refine mw_putIK (pc' := 56) dX10_seek_53 rfl flX10_28 rfl (Or.inl rfl) (m_boolP (by rw [ew15]; exact (m_boolI m_bool0 m_bool1))) (skT_38 hS) hS (fun h16 eh16 hS => ?_)
        replace K := K h16 eh16
        have ta1 : mT h16 a1 = 100 := by rw [eh16]; exact ta1
        refine mw_aload_n (pc' := 57) dX10_seek_56 rfl rfl ?_
        refine mw_iconst (pc' := 58) (v := 0) dX10_seek_57 rfl (by decide) ?_
        refine mw_putIK (pc' := 61) dX10_seek_58 rfl flX10_32 rfl (Or.inl rfl) ⟨rfl, rfl⟩ (skT_38 hS) hS (fun h17 eh17 hS => ?_)
        replace K := K h17 eh17
        have ta1 : mT h17 a1 = 100 := by rw [eh17]; exact ta1
        refine mw_aload_n (pc' := 62) dX10_seek_61 rfl rfl ?_
        refine mw_iconst (pc' := 63) (v := 0) dX10_seek_62 rfl (by decide) ?_
        refine mw_putIK (pc' := 66) dX10_seek_63 rfl flX10_35 rfl (Or.inl rfl) ⟨rfl, rfl⟩ (skT_38 hS) hS (fun h18 eh18 hS => ?_)
        replace K := K h18 eh18
        have ta1 : mT h18 a1 = 100 := by rw [eh18]; exact ta1
        refine mw_aload_n (pc' := 67) dX10_seek_66 rfl rfl ?_
        refine mw_getI (pc' := 70) dX10_seek_67 rfl flX10_28 rfl (skT_38 hS) ?_
        refine mw_if_eq (pc' := 73) (tgt := 74) dX10_seek_70 rfl (by decide) (fun c20 => ?_) (fun c20 => ?_)
        · replace K := K.1 c20
          refine mw_aload_n (pc' := 75) dX10_seek_74 rfl rfl ?_
          refine mw_getR (pc' := 78) dX10_seek_75 rfl flX10_9 rfl (skT_38 hS) ?_
          rw [skR_38_0 hS]
          refine mw_iconst (pc' := 79) (v := 0) dX10_seek_78 rfl (by decide) ?_
          refine mw_callS (pc' := 82) (b' := (0, 0)) (b1 := b) (av := [.inr (some 39), .inl 0]) (rest := []) dX10_seek_79 rfl lkX10_38 rfl rfl (Nat.le_of_ble_eq_true rfl) ⟨Nat.le_of_eq (Nat.zero_add _), Nat.le_of_eq (Nat.zero_add _)⟩ ?_
          refine mC_mono (fun r h19 hr => ?_) K
          obtain ⟨rfl, hS, ta1, K⟩ := hr
          show mW _ _ _ _ _ _ [] _ _
          refine mw_iconst (pc' := 83) (v := 1) dX10_seek_82 rfl (by decide) ?_
          refine mw_istore (pc' := 85) dX10_seek_83 rfl (by decide) ?_
          show mW _ _ _ _ _ [some (.inr (some 38)), some (.inr (some a1)), some (.inl v2), some (.inl v3), some (.inl v4), some (.inl 1), none] _ _ _
          refine mw_iconst (pc' := 86) (v := 0) dX10_seek_85 rfl (by decide) ?_
          refine mw_istore (pc' := 88) dX10_seek_86 rfl (by decide) ?_
          show mW _ _ _ _ _ [some (.inr (some 38)), some (.inr (some a1)), some (.inl v2), some (.inl v3), some (.inl v4), some (.inl 1), some (.inl 0)] _ _ _
          refine mw_weak (ls' := [some (.inr (some 38)), some (.inr (some a1)), none, none, none, some (.inl 1), some (.inl 0)]) ?_ ?_
          · intro i v hv; match i, hv with
            | 0, hv => exact hv
            | 1, hv => exact hv
            | 2, hv => cases hv
            | 3, hv => cases hv
            | 4, hv => cases hv
            | 5, hv => exact hv
            | 6, hv => exact hv
            | n + 7, hv => cases hv
          exact K
        · replace K := K.2 c20
          exact mw_ret dX10_seek_73 rfl K
      refine mw_icmp_ne (pc' := 48) (tgt := 52) dX10_seek_45 rfl (by decide) (fun c22 => ?_) (fun c22 => ?_)
      · refine mw_iconst (pc' := 53) (v := 0) dX10_seek_52 rfl (by decide) ?_
        exact J21 _ (by rw [if_pos c22])
      · refine mw_iconst (pc' := 49) (v := 1) dX10_seek_48 rfl (by decide) ?_
        refine mw_goto (tgt := 53) dX10_seek_49 (by decide) ?_
        exact J21 _ (by rw [if_neg (fun z => z c22)])
    · replace K := K.2 c35
      refine mw_aload_n (pc' := 18) dX10_seek_17 rfl rfl ?_
      refine mw_getI (pc' := 21) dX10_seek_18 rfl flX10_25 rfl (skT_38 hS) ?_
      refine mw_iload_n (pc' := 22) dX10_seek_21 rfl rfl ?_
      refine mw_icmp_ne (pc' := 25) (tgt := 26) dX10_seek_22 rfl (by decide) (fun c34 => ?_) (fun c34 => ?_)
      · replace K := K.1 c34
        refine mw_aload_n (pc' := 27) dX10_seek_26 rfl rfl ?_
        refine mw_iload (pc' := 29) dX10_seek_27 rfl rfl ?_
        refine mw_putIK (pc' := 32) dX10_seek_29 rfl flX10_18 rfl (Or.inl rfl) ⟨rfl, rfl⟩ (skT_38 hS) hS (fun h23 eh23 hS => ?_)
        replace K := K h23 eh23
        have ta1 : mT h23 a1 = 100 := by rw [eh23]; exact ta1
        refine mw_aload_n (pc' := 33) dX10_seek_32 rfl rfl ?_
        refine mw_iload_n (pc' := 34) dX10_seek_33 rfl rfl ?_
        refine mw_putIK (pc' := 37) dX10_seek_34 rfl flX10_22 rfl (Or.inl rfl) ⟨rfl, rfl⟩ (skT_38 hS) hS (fun h24 eh24 hS => ?_)
        replace K := K h24 eh24
        have ta1 : mT h24 a1 = 100 := by rw [eh24]; exact ta1
        refine mw_aload_n (pc' := 38) dX10_seek_37 rfl rfl ?_
        refine mw_iload_n (pc' := 39) dX10_seek_38 rfl rfl ?_
        refine mw_putIK (pc' := 42) dX10_seek_39 rfl flX10_25 rfl (Or.inl rfl) ⟨rfl, rfl⟩ (skT_38 hS) hS (fun h25 eh25 hS => ?_)
        replace K := K h25 eh25
        have ta1 : mT h25 a1 = 100 := by rw [eh25]; exact ta1
        refine mw_aload_n (pc' := 43) dX10_seek_42 rfl rfl ?_
        refine mw_iload_n (pc' := 44) dX10_seek_43 rfl rfl ?_
        refine mw_iload_n (pc' := 45) dX10_seek_44 rfl rfl ?_
        have J32 : ∀ w26 : Int32, w26 = (if ¬ v2 = v3 then 0 else 1) → mW G kX10_seek (d + 3) b 53 [some (.inr (some 38)), some (.inr (some a1)), some (.inl v2), some (.inl v3), some (.inl v4), none, none] ([.inl w26, .inr (some 38)]) h25 Q := by
          intro w26 ew26
          replace K := K w26 ew26
          refine mw_putIK (pc' := 56) dX10_seek_53 rfl flX10_28 rfl (Or.inl rfl) (m_boolP (by rw [ew26]; exact (m_boolI m_bool0 m_bool1))) (skT_38 hS) hS (fun h27 eh27 hS => ?_)
          replace K := K h27 eh27
          have ta1 : mT h27 a1 = 100 := by rw [eh27]; exact ta1
          refine mw_aload_n (pc' := 57) dX10_seek_56 rfl rfl ?_
          refine mw_iconst (pc' := 58) (v := 0) dX10_seek_57 rfl (by decide) ?_
          refine mw_putIK (pc' := 61) dX10_seek_58 rfl flX10_32 rfl (Or.inl rfl) ⟨rfl, rfl⟩ (skT_38 hS) hS (fun h28 eh28 hS => ?_)
          replace K := K h28 eh28
          have ta1 : mT h28 a1 = 100 := by rw [eh28]; exact ta1
          refine mw_aload_n (pc' := 62) dX10_seek_61 rfl rfl ?_
          refine mw_iconst (pc' := 63) (v := 0) dX10_seek_62 rfl (by decide) ?_
          refine mw_putIK (pc' := 66) dX10_seek_63 rfl flX10_35 rfl (Or.inl rfl) ⟨rfl, rfl⟩ (skT_38 hS) hS (fun h29 eh29 hS => ?_)
          replace K := K h29 eh29
          have ta1 : mT h29 a1 = 100 := by rw [eh29]; exact ta1
          refine mw_aload_n (pc' := 67) dX10_seek_66 rfl rfl ?_
          refine mw_getI (pc' := 70) dX10_seek_67 rfl flX10_28 rfl (skT_38 hS) ?_
          refine mw_if_eq (pc' := 73) (tgt := 74) dX10_seek_70 rfl (by decide) (fun c31 => ?_) (fun c31 => ?_)
          · replace K := K.1 c31
            refine mw_aload_n (pc' := 75) dX10_seek_74 rfl rfl ?_
            refine mw_getR (pc' := 78) dX10_seek_75 rfl flX10_9 rfl (skT_38 hS) ?_
            rw [skR_38_0 hS]
            refine mw_iconst (pc' := 79) (v := 0) dX10_seek_78 rfl (by decide) ?_
            refine mw_callS (pc' := 82) (b' := (0, 0)) (b1 := b) (av := [.inr (some 39), .inl 0]) (rest := []) dX10_seek_79 rfl lkX10_38 rfl rfl (Nat.le_of_ble_eq_true rfl) ⟨Nat.le_of_eq (Nat.zero_add _), Nat.le_of_eq (Nat.zero_add _)⟩ ?_
            refine mC_mono (fun r h30 hr => ?_) K
            obtain ⟨rfl, hS, ta1, K⟩ := hr
            show mW _ _ _ _ _ _ [] _ _
            refine mw_iconst (pc' := 83) (v := 1) dX10_seek_82 rfl (by decide) ?_
            refine mw_istore (pc' := 85) dX10_seek_83 rfl (by decide) ?_
            show mW _ _ _ _ _ [some (.inr (some 38)), some (.inr (some a1)), some (.inl v2), some (.inl v3), some (.inl v4), some (.inl 1), none] _ _ _
            refine mw_iconst (pc' := 86) (v := 0) dX10_seek_85 rfl (by decide) ?_
            refine mw_istore (pc' := 88) dX10_seek_86 rfl (by decide) ?_
            show mW _ _ _ _ _ [some (.inr (some 38)), some (.inr (some a1)), some (.inl v2), some (.inl v3), some (.inl v4), some (.inl 1), some (.inl 0)] _ _ _
            refine mw_weak (ls' := [some (.inr (some 38)), some (.inr (some a1)), none, none, none, some (.inl 1), some (.inl 0)]) ?_ ?_
            · intro i v hv; match i, hv with
              | 0, hv => exact hv
              | 1, hv => exact hv
              | 2, hv => cases hv
              | 3, hv => cases hv
              | 4, hv => cases hv
              | 5, hv => exact hv
              | 6, hv => exact hv
              | n + 7, hv => cases hv
            exact K
          · replace K := K.2 c31
            exact mw_ret dX10_seek_73 rfl K
        refine mw_icmp_ne (pc' := 48) (tgt := 52) dX10_seek_45 rfl (by decide) (fun c33 => ?_) (fun c33 => ?_)
        · refine mw_iconst (pc' := 53) (v := 0) dX10_seek_52 rfl (by decide) ?_
          exact J32 _ (by rw [if_pos c33])
        · refine mw_iconst (pc' := 49) (v := 1) dX10_seek_48 rfl (by decide) ?_
          refine mw_goto (tgt := 53) dX10_seek_49 (by decide) ?_
          exact J32 _ (by rw [if_neg (fun z => z c33)])
      · replace K := K.2 c34
        exact mw_ret dX10_seek_25 rfl K

set_option maxRecDepth 100000 in
set_option maxHeartbeats 4000000 in
theorem qX10_seek_88 {G : mG} {d : Nat} {b : Nat × Nat} {h : mH} {Q : Option mV → mH → Prop} (a1 : Nat) (v5 : Int32) (v6 : Int32) (ta1 : mT h a1 = 100) (hS : mSk h)
    (K : ((v5 = 0 → (((mI h 38 2) = 0 → Q none h) ∧ (¬ (mI h 38 2) = 0 → mC G kX10_walk (d + 2) (0, 0) [.inr (some 38)] h (fun r h1 => r = none ∧ mSk h1 ∧ mT h1 a1 = 100 ∧ Q none h1)))) ∧ (¬ v5 = 0 → ((¬ (mI h 38 2) = 0 → (((mI h 38 2) = 0 → Q none h) ∧ (¬ (mI h 38 2) = 0 → mC G kX10_walk (d + 2) (0, 0) [.inr (some 38)] h (fun r h3 => r = none ∧ mSk h3 ∧ mT h3 a1 = 100 ∧ Q none h3)))) ∧ ((mI h 38 2) = 0 → ((1024 ≤ v6 → (((mI h 38 2) = 0 → Q none h) ∧ (¬ (mI h 38 2) = 0 → mC G kX10_walk (d + 2) (0, 0) [.inr (some 38)] h (fun r h5 => r = none ∧ mSk h5 ∧ mT h5 a1 = 100 ∧ Q none h5)))) ∧ (¬ (1024 ≤ v6) → mC G kX10_addTurn (d + 2) (0, 0) [.inr (some 38), .inr (some a1), .inl v6] h (fun r h7 => ∃ x8, r = some (.inl x8) ∧ mSk h7 ∧ mT h7 a1 = 100 ∧ mC G kX10_bestFirst (d + 2) (0, 0) [.inr (some 38)] h7 (fun r h9 => ∃ x10, r = some (.inl x10) ∧ mSk h9 ∧ mT h9 a1 = 100 ∧ ∀ w11 : Int32, w11 = (if x10 = (-1) then 0 else 1) → ∀ h12, h12 = mSI h9 38 2 w11 → mW G kX10_seek (d + 3) b 88 [some (.inr (some 38)), some (.inr (some a1)), none, none, none, some (.inl x8), some (.inl (v6 + 1))] [] h12 Q))))))))) : mW G kX10_seek (d + 3) b 88 [some (.inr (some 38)), some (.inr (some a1)), none, none, none, some (.inl v5), some (.inl v6)] [] h Q := by
  refine mw_iload (pc' := 90) dX10_seek_88 rfl rfl ?_
  refine mw_if_eq (pc' := 93) (tgt := 140) dX10_seek_90 rfl (by decide) (fun c17 => ?_) (fun c17 => ?_)
  · replace K := K.1 c17
    refine mw_aload_n (pc' := 141) dX10_seek_140 rfl rfl ?_
    refine mw_getI (pc' := 144) dX10_seek_141 rfl flX10_28 rfl (skT_38 hS) ?_
    refine mw_if_eq (pc' := 147) (tgt := 151) dX10_seek_144 rfl (by decide) (fun c2 => ?_) (fun c2 => ?_)
    · replace K := K.1 c2
      exact mw_ret dX10_seek_151 rfl K
    · replace K := K.2 c2
      refine mw_aload_n (pc' := 148) dX10_seek_147 rfl rfl ?_
      refine mw_callV (pc' := 151) (b' := (0, 0)) (b1 := b) (av := []) (rest := []) dX10_seek_148 rfl lkX10_52 rfl rfl (Nat.le_of_ble_eq_true rfl) ⟨Nat.le_of_eq (Nat.zero_add _), Nat.le_of_eq (Nat.zero_add _)⟩ (skT_38 hS) ?_
      refine mC_mono (fun r h1 hr => ?_) K
      obtain ⟨rfl, hS, ta1, K⟩ := hr
      show mW _ _ _ _ _ _ [] _ _
      exact mw_ret dX10_seek_151 rfl K
  · replace K := K.2 c17
    refine mw_aload_n (pc' := 94) dX10_seek_93 rfl rfl ?_
    refine mw_getI (pc' := 97) dX10_seek_94 rfl flX10_28 rfl (skT_38 hS) ?_
    refine mw_if_ne (pc' := 100) (tgt := 140) dX10_seek_97 rfl (by decide) (fun c16 => ?_) (fun c16 => ?_)
    · replace K := K.1 c16
      refine mw_aload_n (pc' := 141) dX10_seek_140 rfl rfl ?_
      refine mw_getI (pc' := 144) dX10_seek_141 rfl flX10_28 rfl (skT_38 hS) ?_
      refine mw_if_eq (pc' := 147) (tgt := 151) dX10_seek_144 rfl (by decide) (fun c4 => ?_) (fun c4 => ?_)
      · replace K := K.1 c4
        exact mw_ret dX10_seek_151 rfl K
      · replace K := K.2 c4
        refine mw_aload_n (pc' := 148) dX10_seek_147 rfl rfl ?_
        refine mw_callV (pc' := 151) (b' := (0, 0)) (b1 := b) (av := []) (rest := []) dX10_seek_148 rfl lkX10_52 rfl rfl (Nat.le_of_ble_eq_true rfl) ⟨Nat.le_of_eq (Nat.zero_add _), Nat.le_of_eq (Nat.zero_add _)⟩ (skT_38 hS) ?_
        refine mC_mono (fun r h3 hr => ?_) K
        obtain ⟨rfl, hS, ta1, K⟩ := hr
        show mW _ _ _ _ _ _ [] _ _
        exact mw_ret dX10_seek_151 rfl K
    · replace K := K.2 c16
      refine mw_iload (pc' := 102) dX10_seek_100 rfl rfl ?_
      refine mw_sipush (pc' := 105) (v := 1024) dX10_seek_102 rfl (by decide) ?_
      refine mw_icmp_ge (pc' := 108) (tgt := 140) dX10_seek_105 rfl (by decide) (fun c15 => ?_) (fun c15 => ?_)
      · replace K := K.1 c15
        refine mw_aload_n (pc' := 141) dX10_seek_140 rfl rfl ?_
        refine mw_getI (pc' := 144) dX10_seek_141 rfl flX10_28 rfl (skT_38 hS) ?_
        refine mw_if_eq (pc' := 147) (tgt := 151) dX10_seek_144 rfl (by decide) (fun c6 => ?_) (fun c6 => ?_)
        · replace K := K.1 c6
          exact mw_ret dX10_seek_151 rfl K
        · replace K := K.2 c6
          refine mw_aload_n (pc' := 148) dX10_seek_147 rfl rfl ?_
          refine mw_callV (pc' := 151) (b' := (0, 0)) (b1 := b) (av := []) (rest := []) dX10_seek_148 rfl lkX10_52 rfl rfl (Nat.le_of_ble_eq_true rfl) ⟨Nat.le_of_eq (Nat.zero_add _), Nat.le_of_eq (Nat.zero_add _)⟩ (skT_38 hS) ?_
          refine mC_mono (fun r h5 hr => ?_) K
          obtain ⟨rfl, hS, ta1, K⟩ := hr
          show mW _ _ _ _ _ _ [] _ _
          exact mw_ret dX10_seek_151 rfl K
      · replace K := K.2 c15
        refine mw_aload_n (pc' := 109) dX10_seek_108 rfl rfl ?_
        refine mw_aload_n (pc' := 110) dX10_seek_109 rfl rfl ?_
        refine mw_iload (pc' := 112) dX10_seek_110 rfl rfl ?_
        refine mw_callV (pc' := 115) (b' := (0, 0)) (b1 := b) (av := [.inr (some a1), .inl v6]) (rest := []) dX10_seek_112 rfl lkX10_44 rfl rfl (Nat.le_of_ble_eq_true rfl) ⟨Nat.le_of_eq (Nat.zero_add _), Nat.le_of_eq (Nat.zero_add _)⟩ (skT_38 hS) ?_
        refine mC_mono (fun r h7 hr => ?_) K
        obtain ⟨x8, rfl, hS, ta1, K⟩ := hr
        show mW _ _ _ _ _ _ [.inl x8] _ _
        refine mw_istore (pc' := 117) dX10_seek_115 rfl (by decide) ?_
        show mW _ _ _ _ _ [some (.inr (some 38)), some (.inr (some a1)), none, none, none, some (.inl x8), some (.inl v6)] _ _ _
        refine mw_aload_n (pc' := 118) dX10_seek_117 rfl rfl ?_
        refine mw_aload_n (pc' := 119) dX10_seek_118 rfl rfl ?_
        refine mw_callV (pc' := 122) (b' := (0, 0)) (b1 := b) (av := []) (rest := [.inr (some 38)]) dX10_seek_119 rfl lkX10_48 rfl rfl (Nat.le_of_ble_eq_true rfl) ⟨Nat.le_of_eq (Nat.zero_add _), Nat.le_of_eq (Nat.zero_add _)⟩ (skT_38 hS) ?_
        refine mC_mono (fun r h9 hr => ?_) K
        obtain ⟨x10, rfl, hS, ta1, K⟩ := hr
        show mW _ _ _ _ _ _ [.inl x10, .inr (some 38)] _ _
        refine mw_iconst (pc' := 123) (v := (-1)) dX10_seek_122 rfl (by decide) ?_
        have J13 : ∀ w11 : Int32, w11 = (if x10 = (-1) then 0 else 1) → mW G kX10_seek (d + 3) b 131 [some (.inr (some 38)), some (.inr (some a1)), none, none, none, some (.inl x8), some (.inl v6)] ([.inl w11, .inr (some 38)]) h9 Q := by
          intro w11 ew11
          replace K := K w11 ew11
          refine mw_putIK (pc' := 134) dX10_seek_131 rfl flX10_28 rfl (Or.inl rfl) (m_boolP (by rw [ew11]; exact (m_boolI m_bool0 m_bool1))) (skT_38 hS) hS (fun h12 eh12 hS => ?_)
          replace K := K h12 eh12
          have ta1 : mT h12 a1 = 100 := by rw [eh12]; exact ta1
          refine mw_iinc (pc' := 137) (v := v6 + 1) dX10_seek_134 rfl (by decide) rfl rfl ?_
          show mW _ _ _ _ _ [some (.inr (some 38)), some (.inr (some a1)), none, none, none, some (.inl x8), some (.inl (v6 + 1))] _ _ _
          refine mw_goto (tgt := 88) dX10_seek_137 (by decide) ?_
          exact K
        refine mw_icmp_eq (pc' := 126) (tgt := 130) dX10_seek_123 rfl (by decide) (fun c14 => ?_) (fun c14 => ?_)
        · refine mw_iconst (pc' := 131) (v := 0) dX10_seek_130 rfl (by decide) ?_
          exact J13 _ (by rw [if_pos c14])
        · refine mw_iconst (pc' := 127) (v := 1) dX10_seek_126 rfl (by decide) ?_
          refine mw_goto (tgt := 131) dX10_seek_127 (by decide) ?_
          exact J13 _ (by rw [if_neg c14])

set_option maxRecDepth 100000 in
set_option maxHeartbeats 4000000 in
theorem qX10_addTurn {G : mG} {d : Nat} {b : Nat × Nat} {h : mH} {Q : Option mV → mH → Prop} (a1 : Nat) (v2 : Int32) (ta1 : mT h a1 = 100) (hS : mSk h)
    (K : mW G kX10_addTurn (d + 2) b 5 [some (.inr (some 38)), some (.inr (some a1)), some (.inl v2), some (.inl 0), some (.inl 0), none, none, none] [] h Q) : mC G kX10_addTurn (d + 2) b [.inr (some 38), .inr (some a1), .inl v2] h Q := by
  refine mC_in rfl (Nat.le_of_ble_eq_true rfl) ?_
  show mW _ _ _ _ _ [some (.inr (some 38)), some (.inr (some a1)), some (.inl v2), none, none, none, none, none] _ _ _
  refine mw_iconst (pc' := 1) (v := 0) dX10_addTurn_0 rfl (by decide) ?_
  refine mw_istore_n (pc' := 2) dX10_addTurn_1 rfl (by decide) ?_
  show mW _ _ _ _ _ [some (.inr (some 38)), some (.inr (some a1)), some (.inl v2), some (.inl 0), none, none, none, none] _ _ _
  refine mw_iconst (pc' := 3) (v := 0) dX10_addTurn_2 rfl (by decide) ?_
  refine mw_istore (pc' := 5) dX10_addTurn_3 rfl (by decide) ?_
  show mW _ _ _ _ _ [some (.inr (some 38)), some (.inr (some a1)), some (.inl v2), some (.inl 0), some (.inl 0), none, none, none] _ _ _
  exact K

set_option maxRecDepth 100000 in
set_option maxHeartbeats 4000000 in
theorem qX10_addTurn_5 {G : mG} {d : Nat} {b : Nat × Nat} {h : mH} {Q : Option mV → mH → Prop} (a1 : Nat) (v2 : Int32) (v3 : Int32) (v4 : Int32) (ta1 : mT h a1 = 100) (hS : mSk h)
    (K : ((4 ≤ v4 → m_bool v3 ∧ Q (some (.inl v3)) h) ∧ (¬ (4 ≤ v4) → mW G kX10_addTurn (d + 2) b 14 [some (.inr (some 38)), some (.inr (some a1)), some (.inl v2), some (.inl v3), some (.inl v4), some (.inl 0), none, none] [] h Q))) : mW G kX10_addTurn (d + 2) b 5 [some (.inr (some 38)), some (.inr (some a1)), some (.inl v2), some (.inl v3), some (.inl v4), none, none, none] [] h Q := by
  refine mw_iload (pc' := 7) dX10_addTurn_5 rfl rfl ?_
  refine mw_iconst (pc' := 8) (v := 4) dX10_addTurn_7 rfl (by decide) ?_
  refine mw_icmp_ge (pc' := 11) (tgt := 111) dX10_addTurn_8 rfl (by decide) (fun c2 => ?_) (fun c2 => ?_)
  · replace K := K.1 c2
    refine mw_iload_n (pc' := 112) dX10_addTurn_111 rfl rfl ?_
    obtain ⟨o1, K⟩ := K
    exact mw_iret dX10_addTurn_112 rfl (m_boolN o1) K
  · replace K := K.2 c2
    refine mw_iconst (pc' := 12) (v := 0) dX10_addTurn_11 rfl (by decide) ?_
    refine mw_istore (pc' := 14) dX10_addTurn_12 rfl (by decide) ?_
    show mW _ _ _ _ _ [some (.inr (some 38)), some (.inr (some a1)), some (.inl v2), some (.inl v3), some (.inl v4), some (.inl 0), none, none] _ _ _
    exact K

set_option maxRecDepth 100000 in
set_option maxHeartbeats 4000000 in
theorem qX10_addTurn_14 {G : mG} {d : Nat} {b : Nat × Nat} {h : mH} {Q : Option mV → mH → Prop} (a1 : Nat) (v2 : Int32) (v3 : Int32) (v4 : Int32) (v5 : Int32) (ta1 : mT h a1 = 100) (hS : mSk h)
    (K : ((1024 ≤ v5 → mW G kX10_addTurn (d + 2) b 5 [some (.inr (some 38)), some (.inr (some a1)), some (.inl v2), some (.inl v3), some (.inl (v4 + 1)), none, none, none] [] h Q) ∧ (¬ (1024 ≤ v5) → ∀ w1 : Int32, w1 = (if 2 ≤ v4 then v5 else (1023 - v5)) → vp_in ((v4 * 1024) + w1) 4096 ∧ ((¬ (mI h 39 ((v4 * 1024) + w1).toNatClampNeg) = 0 → mW G kX10_addTurn (d + 2) b 14 [some (.inr (some 38)), some (.inr (some a1)), some (.inl v2), some (.inl v3), some (.inl v4), some (.inl (v5 + 1)), none, none] [] h Q) ∧ ((mI h 39 ((v4 * 1024) + w1).toNatClampNeg) = 0 → mC G kX10_stepsFrom (d + 1) (0, 0) [.inr (some 38), .inr (some a1), .inl v4, .inl w1, .inl v2] h (fun r h3 => ∃ x4, r = some (.inl x4) ∧ mSk h3 ∧ mT h3 a1 = 100 ∧ ((x4 ≤ 0 → mW G kX10_addTurn (d + 2) b 14 [some (.inr (some 38)), some (.inr (some a1)), some (.inl v2), some (.inl v3), some (.inl v4), some (.inl (v5 + 1)), none, none] [] h3 Q) ∧ (¬ (x4 ≤ 0) → vp_in ((v4 * 1024) + w1) 4096 ∧ ∀ h6, h6 = mSI h3 39 ((v4 * 1024) + w1).toNatClampNeg ((v2 * 2048) + x4) → mW G kX10_addTurn (d + 2) b 14 [some (.inr (some 38)), some (.inr (some a1)), some (.inl v2), some (.inl 1), some (.inl v4), some (.inl (v5 + 1)), none, none] [] h6 Q)))))))) : mW G kX10_addTurn (d + 2) b 14 [some (.inr (some 38)), some (.inr (some a1)), some (.inl v2), some (.inl v3), some (.inl v4), some (.inl v5), none, none] [] h Q := by
  refine mw_iload (pc' := 16) dX10_addTurn_14 rfl rfl ?_
  refine mw_sipush (pc' := 19) (v := 1024) dX10_addTurn_16 rfl (by decide) ?_
  refine mw_icmp_ge (pc' := 22) (tgt := 105) dX10_addTurn_19 rfl (by decide) (fun c11 => ?_) (fun c11 => ?_)
  · replace K := K.1 c11
    refine mw_iinc (pc' := 108) (v := v4 + 1) dX10_addTurn_105 rfl (by decide) rfl rfl ?_
    show mW _ _ _ _ _ [some (.inr (some 38)), some (.inr (some a1)), some (.inl v2), some (.inl v3), some (.inl (v4 + 1)), some (.inl v5), none, none] _ _ _
    refine mw_goto (tgt := 5) dX10_addTurn_108 (by decide) ?_
    refine mw_weak (ls' := [some (.inr (some 38)), some (.inr (some a1)), some (.inl v2), some (.inl v3), some (.inl (v4 + 1)), none, none, none]) ?_ ?_
    · intro i v hv; match i, hv with
      | 0, hv => exact hv
      | 1, hv => exact hv
      | 2, hv => exact hv
      | 3, hv => exact hv
      | 4, hv => exact hv
      | 5, hv => cases hv
      | 6, hv => cases hv
      | 7, hv => cases hv
      | n + 8, hv => cases hv
    exact K
  · replace K := K.2 c11
    refine mw_iload (pc' := 24) dX10_addTurn_22 rfl rfl ?_
    refine mw_iconst (pc' := 25) (v := 2) dX10_addTurn_24 rfl (by decide) ?_
    have J9 : ∀ w1 : Int32, w1 = (if 2 ≤ v4 then v5 else (1023 - v5)) → mW G kX10_addTurn (d + 2) b 39 [some (.inr (some 38)), some (.inr (some a1)), some (.inl v2), some (.inl v3), some (.inl v4), some (.inl v5), none, none] ([.inl w1]) h Q := by
      intro w1 ew1
      replace K := K w1 ew1
      refine mw_istore (pc' := 41) dX10_addTurn_39 rfl (by decide) ?_
      show mW _ _ _ _ _ [some (.inr (some 38)), some (.inr (some a1)), some (.inl v2), some (.inl v3), some (.inl v4), some (.inl v5), some (.inl w1), none] _ _ _
      refine mw_aload_n (pc' := 42) dX10_addTurn_41 rfl rfl ?_
      refine mw_getR (pc' := 45) dX10_addTurn_42 rfl flX10_9 rfl (skT_38 hS) ?_
      rw [skR_38_0 hS]
      refine mw_iload (pc' := 47) dX10_addTurn_45 rfl rfl ?_
      refine mw_sipush (pc' := 50) (v := 1024) dX10_addTurn_47 rfl (by decide) ?_
      refine mw_imul (pc' := 51) dX10_addTurn_50 rfl ?_
      refine mw_iload (pc' := 53) dX10_addTurn_51 rfl rfl ?_
      refine mw_iadd (pc' := 54) dX10_addTurn_53 rfl ?_
      obtain ⟨o2, K⟩ := K
      refine mw_ialdL (pc' := 55) dX10_addTurn_54 rfl (skT_39 hS) (skL_39 hS) o2 ?_
      refine mw_if_ne (pc' := 58) (tgt := 99) dX10_addTurn_55 rfl (by decide) (fun c8 => ?_) (fun c8 => ?_)
      · replace K := K.1 c8
        refine mw_iinc (pc' := 102) (v := v5 + 1) dX10_addTurn_99 rfl (by decide) rfl rfl ?_
        show mW _ _ _ _ _ [some (.inr (some 38)), some (.inr (some a1)), some (.inl v2), some (.inl v3), some (.inl v4), some (.inl (v5 + 1)), some (.inl w1), none] _ _ _
        refine mw_goto (tgt := 14) dX10_addTurn_102 (by decide) ?_
        refine mw_weak (ls' := [some (.inr (some 38)), some (.inr (some a1)), some (.inl v2), some (.inl v3), some (.inl v4), some (.inl (v5 + 1)), none, none]) ?_ ?_
        · intro i v hv; match i, hv with
          | 0, hv => exact hv
          | 1, hv => exact hv
          | 2, hv => exact hv
          | 3, hv => exact hv
          | 4, hv => exact hv
          | 5, hv => exact hv
          | 6, hv => cases hv
          | 7, hv => cases hv
          | n + 8, hv => cases hv
        exact K
      · replace K := K.2 c8
        refine mw_aload_n (pc' := 59) dX10_addTurn_58 rfl rfl ?_
        refine mw_aload_n (pc' := 60) dX10_addTurn_59 rfl rfl ?_
        refine mw_iload (pc' := 62) dX10_addTurn_60 rfl rfl ?_
        refine mw_iload (pc' := 64) dX10_addTurn_62 rfl rfl ?_
        refine mw_iload_n (pc' := 65) dX10_addTurn_64 rfl rfl ?_
        refine mw_callV (pc' := 68) (b' := (0, 0)) (b1 := b) (av := [.inr (some a1), .inl v4, .inl w1, .inl v2]) (rest := []) dX10_addTurn_65 rfl lkX10_55 rfl rfl (Nat.le_of_ble_eq_true rfl) ⟨Nat.le_of_eq (Nat.zero_add _), Nat.le_of_eq (Nat.zero_add _)⟩ (skT_38 hS) ?_
        refine mC_mono (fun r h3 hr => ?_) K
        obtain ⟨x4, rfl, hS, ta1, K⟩ := hr
        show mW _ _ _ _ _ _ [.inl x4] _ _
        refine mw_istore (pc' := 70) dX10_addTurn_68 rfl (by decide) ?_
        show mW _ _ _ _ _ [some (.inr (some 38)), some (.inr (some a1)), some (.inl v2), some (.inl v3), some (.inl v4), some (.inl v5), some (.inl w1), some (.inl x4)] _ _ _
        refine mw_iload (pc' := 72) dX10_addTurn_70 rfl rfl ?_
        refine mw_if_le (pc' := 75) (tgt := 99) dX10_addTurn_72 rfl (by decide) (fun c7 => ?_) (fun c7 => ?_)
        · replace K := K.1 c7
          refine mw_iinc (pc' := 102) (v := v5 + 1) dX10_addTurn_99 rfl (by decide) rfl rfl ?_
          show mW _ _ _ _ _ [some (.inr (some 38)), some (.inr (some a1)), some (.inl v2), some (.inl v3), some (.inl v4), some (.inl (v5 + 1)), some (.inl w1), some (.inl x4)] _ _ _
          refine mw_goto (tgt := 14) dX10_addTurn_102 (by decide) ?_
          refine mw_weak (ls' := [some (.inr (some 38)), some (.inr (some a1)), some (.inl v2), some (.inl v3), some (.inl v4), some (.inl (v5 + 1)), none, none]) ?_ ?_
          · intro i v hv; match i, hv with
            | 0, hv => exact hv
            | 1, hv => exact hv
            | 2, hv => exact hv
            | 3, hv => exact hv
            | 4, hv => exact hv
            | 5, hv => exact hv
            | 6, hv => cases hv
            | 7, hv => cases hv
            | n + 8, hv => cases hv
          exact K
        · replace K := K.2 c7
          refine mw_aload_n (pc' := 76) dX10_addTurn_75 rfl rfl ?_
          refine mw_getR (pc' := 79) dX10_addTurn_76 rfl flX10_9 rfl (skT_38 hS) ?_
          rw [skR_38_0 hS]
          refine mw_iload (pc' := 81) dX10_addTurn_79 rfl rfl ?_
          refine mw_sipush (pc' := 84) (v := 1024) dX10_addTurn_81 rfl (by decide) ?_
          refine mw_imul (pc' := 85) dX10_addTurn_84 rfl ?_
          refine mw_iload (pc' := 87) dX10_addTurn_85 rfl rfl ?_
          refine mw_iadd (pc' := 88) dX10_addTurn_87 rfl ?_
          refine mw_iload_n (pc' := 89) dX10_addTurn_88 rfl rfl ?_
          refine mw_sipush (pc' := 92) (v := 2048) dX10_addTurn_89 rfl (by decide) ?_
          refine mw_imul (pc' := 93) dX10_addTurn_92 rfl ?_
          refine mw_iload (pc' := 95) dX10_addTurn_93 rfl rfl ?_
          refine mw_iadd (pc' := 96) dX10_addTurn_95 rfl ?_
          obtain ⟨o5, K⟩ := K
          refine mw_iastK (pc' := 97) dX10_addTurn_96 rfl (skT_39 hS) (skL_39 hS) o5 hS (fun h6 eh6 hS => ?_)
          replace K := K h6 eh6
          have ta1 : mT h6 a1 = 100 := by rw [eh6]; exact ta1
          refine mw_iconst (pc' := 98) (v := 1) dX10_addTurn_97 rfl (by decide) ?_
          refine mw_istore_n (pc' := 99) dX10_addTurn_98 rfl (by decide) ?_
          show mW _ _ _ _ _ [some (.inr (some 38)), some (.inr (some a1)), some (.inl v2), some (.inl 1), some (.inl v4), some (.inl v5), some (.inl w1), some (.inl x4)] _ _ _
          refine mw_iinc (pc' := 102) (v := v5 + 1) dX10_addTurn_99 rfl (by decide) rfl rfl ?_
          show mW _ _ _ _ _ [some (.inr (some 38)), some (.inr (some a1)), some (.inl v2), some (.inl 1), some (.inl v4), some (.inl (v5 + 1)), some (.inl w1), some (.inl x4)] _ _ _
          refine mw_goto (tgt := 14) dX10_addTurn_102 (by decide) ?_
          refine mw_weak (ls' := [some (.inr (some 38)), some (.inr (some a1)), some (.inl v2), some (.inl 1), some (.inl v4), some (.inl (v5 + 1)), none, none]) ?_ ?_
          · intro i v hv; match i, hv with
            | 0, hv => exact hv
            | 1, hv => exact hv
            | 2, hv => exact hv
            | 3, hv => exact hv
            | 4, hv => exact hv
            | 5, hv => exact hv
            | 6, hv => cases hv
            | 7, hv => cases hv
            | n + 8, hv => cases hv
          exact K
    refine mw_icmp_ge (pc' := 28) (tgt := 37) dX10_addTurn_25 rfl (by decide) (fun c10 => ?_) (fun c10 => ?_)
    · refine mw_iload (pc' := 39) dX10_addTurn_37 rfl rfl ?_
      exact J9 _ (by rw [if_pos c10])
    · refine mw_sipush (pc' := 31) (v := 1023) dX10_addTurn_28 rfl (by decide) ?_
      refine mw_iload (pc' := 33) dX10_addTurn_31 rfl rfl ?_
      refine mw_isub (pc' := 34) dX10_addTurn_33 rfl ?_
      refine mw_goto (tgt := 39) dX10_addTurn_34 (by decide) ?_
      exact J9 _ (by rw [if_neg c10])

set_option maxRecDepth 100000 in
set_option maxHeartbeats 4000000 in
theorem qX10_stepsFrom {G : mG} {d : Nat} {b : Nat × Nat} {h : mH} {Q : Option mV → mH → Prop} (a1 : Nat) (v2 : Int32) (v3 : Int32) (v4 : Int32) (ta1 : mT h a1 = 100) (hS : mSk h)
    (K : vp_in v2 4 ∧ vp_in v2 4 ∧ vp_in (m_shr v3 5) (mL h a1) ∧ ∀ w4 : Int32, w4 = (if ¬ ((m_ushr (mI h a1 (m_shr v3 5).toNatClampNeg) (v3 &&& 31)) &&& 1) = 1 then 0 else 1) → ((w4 = 0 → Q (some (.inl 0)) h) ∧ (¬ w4 = 0 → (((f_X11_inGrid ((v3 &&& 31) + (mStX v2.toNatClampNeg)) ((m_shr v3 5) + (mStY v2.toNatClampNeg))) = 0 → Q (some (.inl 0)) h) ∧ (¬ (f_X11_inGrid ((v3 &&& 31) + (mStX v2.toNatClampNeg)) ((m_shr v3 5) + (mStY v2.toNatClampNeg))) = 0 → vp_in ((m_shr v3 5) + (mStY v2.toNatClampNeg)) (mL h a1) ∧ ((¬ ((m_ushr (mI h a1 ((m_shr v3 5) + (mStY v2.toNatClampNeg)).toNatClampNeg) ((v3 &&& 31) + (mStX v2.toNatClampNeg))) &&& 1) = 0 → ((¬ ((((m_shr v3 5) + (mStY v2.toNatClampNeg)) * 32) + ((v3 &&& 31) + (mStX v2.toNatClampNeg))) = (mI h 38 6) → mW G kX10_stepsFrom (d + 1) b 102 [some (.inr (some 38)), none, some (.inl v2), none, some (.inl v4), none, none, none, some (.inl ((((m_shr v3 5) + (mStY v2.toNatClampNeg)) * 32) + ((v3 &&& 31) + (mStX v2.toNatClampNeg)))), some (.inl 0), some (.inl 0), none, none] [] h Q) ∧ (((((m_shr v3 5) + (mStY v2.toNatClampNeg)) * 32) + ((v3 &&& 31) + (mStX v2.toNatClampNeg))) = (mI h 38 6) → Q (some (.inl 1)) h))) ∧ (((m_ushr (mI h a1 ((m_shr v3 5) + (mStY v2.toNatClampNeg)).toNatClampNeg) ((v3 &&& 31) + (mStX v2.toNatClampNeg))) &&& 1) = 0 → Q (some (.inl 0)) h))))))) : mC G kX10_stepsFrom (d + 1) b [.inr (some 38), .inr (some a1), .inl v2, .inl v3, .inl v4] h Q := by
  refine mC_in rfl (Nat.le_of_ble_eq_true rfl) ?_
  show mW _ _ _ _ _ [some (.inr (some 38)), some (.inr (some a1)), some (.inl v2), some (.inl v3), some (.inl v4), none, none, none, none, none, none, none, none] _ _ _
  refine mw_iload_n (pc' := 1) dX10_stepsFrom_0 rfl rfl ?_
  refine mw_bipush (pc' := 3) (v := 31) dX10_stepsFrom_1 rfl (by decide) ?_
  refine mw_iand (pc' := 4) dX10_stepsFrom_3 rfl ?_
  refine mw_getsC (pc' := 7) (i := 1) dX10_stepsFrom_4 rfl (Or.inl ⟨rfl, gsX10_59⟩) ?_
  refine mw_iload_n (pc' := 8) dX10_stepsFrom_7 rfl rfl ?_
  obtain ⟨o1, K⟩ := K
  refine mw_stepX (pc' := 9) dX10_stepsFrom_8 rfl o1 ?_
  refine mw_iadd (pc' := 10) dX10_stepsFrom_9 rfl ?_
  refine mw_istore (pc' := 12) dX10_stepsFrom_10 rfl (by decide) ?_
  show mW _ _ _ _ _ [some (.inr (some 38)), some (.inr (some a1)), some (.inl v2), some (.inl v3), some (.inl v4), some (.inl ((v3 &&& 31) + (mStX v2.toNatClampNeg))), none, none, none, none, none, none, none] _ _ _
  refine mw_iload_n (pc' := 13) dX10_stepsFrom_12 rfl rfl ?_
  refine mw_iconst (pc' := 14) (v := 5) dX10_stepsFrom_13 rfl (by decide) ?_
  refine mw_ishrM (pc' := 15) dX10_stepsFrom_14 rfl ?_
  refine mw_getsC (pc' := 18) (i := 2) dX10_stepsFrom_15 rfl (Or.inr ⟨rfl, gsX10_62⟩) ?_
  refine mw_iload_n (pc' := 19) dX10_stepsFrom_18 rfl rfl ?_
  obtain ⟨o2, K⟩ := K
  refine mw_stepY (pc' := 20) dX10_stepsFrom_19 rfl o2 ?_
  refine mw_iadd (pc' := 21) dX10_stepsFrom_20 rfl ?_
  refine mw_istore (pc' := 23) dX10_stepsFrom_21 rfl (by decide) ?_
  show mW _ _ _ _ _ [some (.inr (some 38)), some (.inr (some a1)), some (.inl v2), some (.inl v3), some (.inl v4), some (.inl ((v3 &&& 31) + (mStX v2.toNatClampNeg))), some (.inl ((m_shr v3 5) + (mStY v2.toNatClampNeg))), none, none, none, none, none, none] _ _ _
  refine mw_aload_n (pc' := 24) dX10_stepsFrom_23 rfl rfl ?_
  refine mw_iload_n (pc' := 25) dX10_stepsFrom_24 rfl rfl ?_
  refine mw_iconst (pc' := 26) (v := 5) dX10_stepsFrom_25 rfl (by decide) ?_
  refine mw_ishrM (pc' := 27) dX10_stepsFrom_26 rfl ?_
  obtain ⟨o3, K⟩ := K
  refine mw_ialdL (pc' := 28) dX10_stepsFrom_27 rfl (ta1) (rfl) o3 ?_
  refine mw_iload_n (pc' := 29) dX10_stepsFrom_28 rfl rfl ?_
  refine mw_bipush (pc' := 31) (v := 31) dX10_stepsFrom_29 rfl (by decide) ?_
  refine mw_iand (pc' := 32) dX10_stepsFrom_31 rfl ?_
  refine mw_iushrM (pc' := 33) dX10_stepsFrom_32 rfl ?_
  refine mw_iconst (pc' := 34) (v := 1) dX10_stepsFrom_33 rfl (by decide) ?_
  refine mw_iand (pc' := 35) dX10_stepsFrom_34 rfl ?_
  refine mw_iconst (pc' := 36) (v := 1) dX10_stepsFrom_35 rfl (by decide) ?_
  have J10 : ∀ w4 : Int32, w4 = (if ¬ ((m_ushr (mI h a1 (m_shr v3 5).toNatClampNeg) (v3 &&& 31)) &&& 1) = 1 then 0 else 1) → mW G kX10_stepsFrom (d + 1) b 44 [some (.inr (some 38)), some (.inr (some a1)), some (.inl v2), some (.inl v3), some (.inl v4), some (.inl ((v3 &&& 31) + (mStX v2.toNatClampNeg))), some (.inl ((m_shr v3 5) + (mStY v2.toNatClampNeg))), none, none, none, none, none, none] ([.inl w4]) h Q := by
    intro w4 ew4
    replace K := K w4 ew4
    refine mw_istore (pc' := 46) dX10_stepsFrom_44 rfl (by decide) ?_
    show mW _ _ _ _ _ [some (.inr (some 38)), some (.inr (some a1)), some (.inl v2), some (.inl v3), some (.inl v4), some (.inl ((v3 &&& 31) + (mStX v2.toNatClampNeg))), some (.inl ((m_shr v3 5) + (mStY v2.toNatClampNeg))), some (.inl w4), none, none, none, none, none] _ _ _
    refine mw_iload (pc' := 48) dX10_stepsFrom_46 rfl rfl ?_
    refine mw_if_eq (pc' := 51) (tgt := 73) dX10_stepsFrom_48 rfl (by decide) (fun c9 => ?_) (fun c9 => ?_)
    · replace K := K.1 c9
      refine mw_iconst (pc' := 74) (v := 0) dX10_stepsFrom_73 rfl (by decide) ?_
      exact mw_iret dX10_stepsFrom_74 rfl rfl K
    · replace K := K.2 c9
      refine mw_iload (pc' := 53) dX10_stepsFrom_51 rfl rfl ?_
      refine mw_iload (pc' := 55) dX10_stepsFrom_53 rfl rfl ?_
      refine mw_callS (pc' := 58) (b' := (0, 0)) (b1 := b) (av := [.inl ((v3 &&& 31) + (mStX v2.toNatClampNeg)), .inl ((m_shr v3 5) + (mStY v2.toNatClampNeg))]) (rest := []) dX10_stepsFrom_55 rfl lkX10_65 rfl rfl (Nat.le_of_ble_eq_true rfl) ⟨Nat.le_of_eq (Nat.zero_add _), Nat.le_of_eq (Nat.zero_add _)⟩ ?_
      refine pX11_inGrid ?_
      refine mw_if_eq (pc' := 61) (tgt := 73) dX10_stepsFrom_58 rfl (by decide) (fun c8 => ?_) (fun c8 => ?_)
      · replace K := K.1 c8
        refine mw_iconst (pc' := 74) (v := 0) dX10_stepsFrom_73 rfl (by decide) ?_
        exact mw_iret dX10_stepsFrom_74 rfl rfl K
      · replace K := K.2 c8
        refine mw_aload_n (pc' := 62) dX10_stepsFrom_61 rfl rfl ?_
        refine mw_iload (pc' := 64) dX10_stepsFrom_62 rfl rfl ?_
        obtain ⟨o5, K⟩ := K
        refine mw_ialdL (pc' := 65) dX10_stepsFrom_64 rfl (ta1) (rfl) o5 ?_
        refine mw_iload (pc' := 67) dX10_stepsFrom_65 rfl rfl ?_
        refine mw_iushrM (pc' := 68) dX10_stepsFrom_67 rfl ?_
        refine mw_iconst (pc' := 69) (v := 1) dX10_stepsFrom_68 rfl (by decide) ?_
        refine mw_iand (pc' := 70) dX10_stepsFrom_69 rfl ?_
        refine mw_if_ne (pc' := 73) (tgt := 75) dX10_stepsFrom_70 rfl (by decide) (fun c7 => ?_) (fun c7 => ?_)
        · replace K := K.1 c7
          refine mw_iload (pc' := 77) dX10_stepsFrom_75 rfl rfl ?_
          refine mw_bipush (pc' := 79) (v := 32) dX10_stepsFrom_77 rfl (by decide) ?_
          refine mw_imul (pc' := 80) dX10_stepsFrom_79 rfl ?_
          refine mw_iload (pc' := 82) dX10_stepsFrom_80 rfl rfl ?_
          refine mw_iadd (pc' := 83) dX10_stepsFrom_82 rfl ?_
          refine mw_istore (pc' := 85) dX10_stepsFrom_83 rfl (by decide) ?_
          show mW _ _ _ _ _ [some (.inr (some 38)), some (.inr (some a1)), some (.inl v2), some (.inl v3), some (.inl v4), some (.inl ((v3 &&& 31) + (mStX v2.toNatClampNeg))), some (.inl ((m_shr v3 5) + (mStY v2.toNatClampNeg))), some (.inl w4), some (.inl ((((m_shr v3 5) + (mStY v2.toNatClampNeg)) * 32) + ((v3 &&& 31) + (mStX v2.toNatClampNeg)))), none, none, none, none] _ _ _
          refine mw_iload (pc' := 87) dX10_stepsFrom_85 rfl rfl ?_
          refine mw_aload_n (pc' := 88) dX10_stepsFrom_87 rfl rfl ?_
          refine mw_getI (pc' := 91) dX10_stepsFrom_88 rfl flX10_25 rfl (skT_38 hS) ?_
          refine mw_icmp_ne (pc' := 94) (tgt := 96) dX10_stepsFrom_91 rfl (by decide) (fun c6 => ?_) (fun c6 => ?_)
          · replace K := K.1 c6
            refine mw_iconst (pc' := 97) (v := 0) dX10_stepsFrom_96 rfl (by decide) ?_
            refine mw_istore (pc' := 99) dX10_stepsFrom_97 rfl (by decide) ?_
            show mW _ _ _ _ _ [some (.inr (some 38)), some (.inr (some a1)), some (.inl v2), some (.inl v3), some (.inl v4), some (.inl ((v3 &&& 31) + (mStX v2.toNatClampNeg))), some (.inl ((m_shr v3 5) + (mStY v2.toNatClampNeg))), some (.inl w4), some (.inl ((((m_shr v3 5) + (mStY v2.toNatClampNeg)) * 32) + ((v3 &&& 31) + (mStX v2.toNatClampNeg)))), some (.inl 0), none, none, none] _ _ _
            refine mw_iconst (pc' := 100) (v := 0) dX10_stepsFrom_99 rfl (by decide) ?_
            refine mw_istore (pc' := 102) dX10_stepsFrom_100 rfl (by decide) ?_
            show mW _ _ _ _ _ [some (.inr (some 38)), some (.inr (some a1)), some (.inl v2), some (.inl v3), some (.inl v4), some (.inl ((v3 &&& 31) + (mStX v2.toNatClampNeg))), some (.inl ((m_shr v3 5) + (mStY v2.toNatClampNeg))), some (.inl w4), some (.inl ((((m_shr v3 5) + (mStY v2.toNatClampNeg)) * 32) + ((v3 &&& 31) + (mStX v2.toNatClampNeg)))), some (.inl 0), some (.inl 0), none, none] _ _ _
            refine mw_weak (ls' := [some (.inr (some 38)), none, some (.inl v2), none, some (.inl v4), none, none, none, some (.inl ((((m_shr v3 5) + (mStY v2.toNatClampNeg)) * 32) + ((v3 &&& 31) + (mStX v2.toNatClampNeg)))), some (.inl 0), some (.inl 0), none, none]) ?_ ?_
            · intro i v hv; match i, hv with
              | 0, hv => exact hv
              | 1, hv => cases hv
              | 2, hv => exact hv
              | 3, hv => cases hv
              | 4, hv => exact hv
              | 5, hv => cases hv
              | 6, hv => cases hv
              | 7, hv => cases hv
              | 8, hv => exact hv
              | 9, hv => exact hv
              | 10, hv => exact hv
              | 11, hv => cases hv
              | 12, hv => cases hv
              | n + 13, hv => cases hv
            exact K
          · replace K := K.2 c6
            refine mw_iconst (pc' := 95) (v := 1) dX10_stepsFrom_94 rfl (by decide) ?_
            exact mw_iret dX10_stepsFrom_95 rfl rfl K
        · replace K := K.2 c7
          refine mw_iconst (pc' := 74) (v := 0) dX10_stepsFrom_73 rfl (by decide) ?_
          exact mw_iret dX10_stepsFrom_74 rfl rfl K
  refine mw_icmp_ne (pc' := 39) (tgt := 43) dX10_stepsFrom_36 rfl (by decide) (fun c11 => ?_) (fun c11 => ?_)
  · refine mw_iconst (pc' := 44) (v := 0) dX10_stepsFrom_43 rfl (by decide) ?_
    exact J10 _ (by rw [if_pos c11])
  · refine mw_iconst (pc' := 40) (v := 1) dX10_stepsFrom_39 rfl (by decide) ?_
    refine mw_goto (tgt := 44) dX10_stepsFrom_40 (by decide) ?_
    exact J10 _ (by rw [if_neg (fun z => z c11)])

set_option maxRecDepth 100000 in
set_option maxHeartbeats 4000000 in
theorem qX10_stepsFrom_102 {G : mG} {d : Nat} {b : Nat × Nat} {h : mH} {Q : Option mV → mH → Prop} (v2 : Int32) (v4 : Int32) (v8 : Int32) (v9 : Int32) (v10 : Int32) (hS : mSk h)
    (K : ((4 ≤ v10 → Q (some (.inl v9)) h) ∧ (¬ (4 ≤ v10) → vp_in ((v10 * 1024) + v8) 4096 ∧ (((mI h 39 ((v10 * 1024) + v8).toNatClampNeg) = 0 → mW G kX10_stepsFrom (d + 1) b 102 [some (.inr (some 38)), none, some (.inl v2), none, some (.inl v4), none, none, none, some (.inl v8), some (.inl v9), some (.inl (v10 + 1)), none, none] [] h Q) ∧ (¬ (mI h 39 ((v10 * 1024) + v8).toNatClampNeg) = 0 → ∀ w2 : Int32, w2 = (if ¬ v10 = v2 then (v4 - 1) else v4) → ((¬ ((mI h 39 ((v10 * 1024) + v8).toNatClampNeg) / 2048) = w2 → mW G kX10_stepsFrom (d + 1) b 102 [some (.inr (some 38)), none, some (.inl v2), none, some (.inl v4), none, none, none, some (.inl v8), some (.inl v9), some (.inl (v10 + 1)), none, none] [] h Q) ∧ (((mI h 39 ((v10 * 1024) + v8).toNatClampNeg) / 2048) = w2 → ∀ w3 : Int32, w3 = (if ¬ v9 = 0 then (f_min v9 ((m_rem (mI h 39 ((v10 * 1024) + v8).toNatClampNeg) 2048) + 1)) else ((m_rem (mI h 39 ((v10 * 1024) + v8).toNatClampNeg) 2048) + 1)) → mW G kX10_stepsFrom (d + 1) b 102 [some (.inr (some 38)), none, some (.inl v2), none, some (.inl v4), none, none, none, some (.inl v8), some (.inl w3), some (.inl (v10 + 1)), none, none] [] h Q))))))) : mW G kX10_stepsFrom (d + 1) b 102 [some (.inr (some 38)), none, some (.inl v2), none, some (.inl v4), none, none, none, some (.inl v8), some (.inl v9), some (.inl v10), none, none] [] h Q := by
  refine mw_iload (pc' := 104) dX10_stepsFrom_102 rfl rfl ?_
  refine mw_iconst (pc' := 105) (v := 4) dX10_stepsFrom_104 rfl (by decide) ?_
  refine mw_icmp_ge (pc' := 108) (tgt := 188) dX10_stepsFrom_105 rfl (by decide) (fun c10 => ?_) (fun c10 => ?_)
  · replace K := K.1 c10
    refine mw_iload (pc' := 190) dX10_stepsFrom_188 rfl rfl ?_
    exact mw_iret dX10_stepsFrom_190 rfl rfl K
  · replace K := K.2 c10
    refine mw_aload_n (pc' := 109) dX10_stepsFrom_108 rfl rfl ?_
    refine mw_getR (pc' := 112) dX10_stepsFrom_109 rfl flX10_9 rfl (skT_38 hS) ?_
    rw [skR_38_0 hS]
    refine mw_iload (pc' := 114) dX10_stepsFrom_112 rfl rfl ?_
    refine mw_sipush (pc' := 117) (v := 1024) dX10_stepsFrom_114 rfl (by decide) ?_
    refine mw_imul (pc' := 118) dX10_stepsFrom_117 rfl ?_
    refine mw_iload (pc' := 120) dX10_stepsFrom_118 rfl rfl ?_
    refine mw_iadd (pc' := 121) dX10_stepsFrom_120 rfl ?_
    obtain ⟨o1, K⟩ := K
    refine mw_ialdL (pc' := 122) dX10_stepsFrom_121 rfl (skT_39 hS) (skL_39 hS) o1 ?_
    refine mw_istore (pc' := 124) dX10_stepsFrom_122 rfl (by decide) ?_
    show mW _ _ _ _ _ [some (.inr (some 38)), none, some (.inl v2), none, some (.inl v4), none, none, none, some (.inl v8), some (.inl v9), some (.inl v10), some (.inl (mI h 39 ((v10 * 1024) + v8).toNatClampNeg)), none] _ _ _
    refine mw_iload (pc' := 126) dX10_stepsFrom_124 rfl rfl ?_
    refine mw_sipush (pc' := 129) (v := 2048) dX10_stepsFrom_126 rfl (by decide) ?_
    refine mw_iremM (pc' := 130) dX10_stepsFrom_129 rfl (by decide) ?_
    refine mw_iconst (pc' := 131) (v := 1) dX10_stepsFrom_130 rfl (by decide) ?_
    refine mw_iadd (pc' := 132) dX10_stepsFrom_131 rfl ?_
    refine mw_istore (pc' := 134) dX10_stepsFrom_132 rfl (by decide) ?_
    show mW _ _ _ _ _ [some (.inr (some 38)), none, some (.inl v2), none, some (.inl v4), none, none, none, some (.inl v8), some (.inl v9), some (.inl v10), some (.inl (mI h 39 ((v10 * 1024) + v8).toNatClampNeg)), some (.inl ((m_rem (mI h 39 ((v10 * 1024) + v8).toNatClampNeg) 2048) + 1))] _ _ _
    refine mw_iload (pc' := 136) dX10_stepsFrom_134 rfl rfl ?_
    refine mw_if_eq (pc' := 139) (tgt := 182) dX10_stepsFrom_136 rfl (by decide) (fun c9 => ?_) (fun c9 => ?_)
    · replace K := K.1 c9
      refine mw_iinc (pc' := 185) (v := v10 + 1) dX10_stepsFrom_182 rfl (by decide) rfl rfl ?_
      show mW _ _ _ _ _ [some (.inr (some 38)), none, some (.inl v2), none, some (.inl v4), none, none, none, some (.inl v8), some (.inl v9), some (.inl (v10 + 1)), some (.inl (mI h 39 ((v10 * 1024) + v8).toNatClampNeg)), some (.inl ((m_rem (mI h 39 ((v10 * 1024) + v8).toNatClampNeg) 2048) + 1))] _ _ _
      refine mw_goto (tgt := 102) dX10_stepsFrom_185 (by decide) ?_
      refine mw_weak (ls' := [some (.inr (some 38)), none, some (.inl v2), none, some (.inl v4), none, none, none, some (.inl v8), some (.inl v9), some (.inl (v10 + 1)), none, none]) ?_ ?_
      · intro i v hv; match i, hv with
        | 0, hv => exact hv
        | 1, hv => cases hv
        | 2, hv => exact hv
        | 3, hv => cases hv
        | 4, hv => exact hv
        | 5, hv => cases hv
        | 6, hv => cases hv
        | 7, hv => cases hv
        | 8, hv => exact hv
        | 9, hv => exact hv
        | 10, hv => exact hv
        | 11, hv => cases hv
        | 12, hv => cases hv
        | n + 13, hv => cases hv
      exact K
    · replace K := K.2 c9
      refine mw_iload (pc' := 141) dX10_stepsFrom_139 rfl rfl ?_
      refine mw_sipush (pc' := 144) (v := 2048) dX10_stepsFrom_141 rfl (by decide) ?_
      refine mw_idiv (pc' := 145) dX10_stepsFrom_144 rfl (by decide) ?_
      refine mw_iload (pc' := 147) dX10_stepsFrom_145 rfl rfl ?_
      refine mw_iload_n (pc' := 148) dX10_stepsFrom_147 rfl rfl ?_
      have J7 : ∀ w2 : Int32, w2 = (if ¬ v10 = v2 then (v4 - 1) else v4) → mW G kX10_stepsFrom (d + 1) b 160 [some (.inr (some 38)), none, some (.inl v2), none, some (.inl v4), none, none, none, some (.inl v8), some (.inl v9), some (.inl v10), some (.inl (mI h 39 ((v10 * 1024) + v8).toNatClampNeg)), some (.inl ((m_rem (mI h 39 ((v10 * 1024) + v8).toNatClampNeg) 2048) + 1))] ([.inl w2, .inl ((mI h 39 ((v10 * 1024) + v8).toNatClampNeg) / 2048)]) h Q := by
        intro w2 ew2
        replace K := K w2 ew2
        refine mw_icmp_ne (pc' := 163) (tgt := 182) dX10_stepsFrom_160 rfl (by decide) (fun c6 => ?_) (fun c6 => ?_)
        · replace K := K.1 c6
          refine mw_iinc (pc' := 185) (v := v10 + 1) dX10_stepsFrom_182 rfl (by decide) rfl rfl ?_
          show mW _ _ _ _ _ [some (.inr (some 38)), none, some (.inl v2), none, some (.inl v4), none, none, none, some (.inl v8), some (.inl v9), some (.inl (v10 + 1)), some (.inl (mI h 39 ((v10 * 1024) + v8).toNatClampNeg)), some (.inl ((m_rem (mI h 39 ((v10 * 1024) + v8).toNatClampNeg) 2048) + 1))] _ _ _
          refine mw_goto (tgt := 102) dX10_stepsFrom_185 (by decide) ?_
          refine mw_weak (ls' := [some (.inr (some 38)), none, some (.inl v2), none, some (.inl v4), none, none, none, some (.inl v8), some (.inl v9), some (.inl (v10 + 1)), none, none]) ?_ ?_
          · intro i v hv; match i, hv with
            | 0, hv => exact hv
            | 1, hv => cases hv
            | 2, hv => exact hv
            | 3, hv => cases hv
            | 4, hv => exact hv
            | 5, hv => cases hv
            | 6, hv => cases hv
            | 7, hv => cases hv
            | 8, hv => exact hv
            | 9, hv => exact hv
            | 10, hv => exact hv
            | 11, hv => cases hv
            | 12, hv => cases hv
            | n + 13, hv => cases hv
          exact K
        · replace K := K.2 c6
          refine mw_iload (pc' := 165) dX10_stepsFrom_163 rfl rfl ?_
          have J4 : ∀ w3 : Int32, w3 = (if ¬ v9 = 0 then (f_min v9 ((m_rem (mI h 39 ((v10 * 1024) + v8).toNatClampNeg) 2048) + 1)) else ((m_rem (mI h 39 ((v10 * 1024) + v8).toNatClampNeg) 2048) + 1)) → mW G kX10_stepsFrom (d + 1) b 180 [some (.inr (some 38)), none, some (.inl v2), none, some (.inl v4), none, none, none, some (.inl v8), some (.inl v9), some (.inl v10), some (.inl (mI h 39 ((v10 * 1024) + v8).toNatClampNeg)), some (.inl ((m_rem (mI h 39 ((v10 * 1024) + v8).toNatClampNeg) 2048) + 1))] ([.inl w3]) h Q := by
            intro w3 ew3
            replace K := K w3 ew3
            refine mw_istore (pc' := 182) dX10_stepsFrom_180 rfl (by decide) ?_
            show mW _ _ _ _ _ [some (.inr (some 38)), none, some (.inl v2), none, some (.inl v4), none, none, none, some (.inl v8), some (.inl w3), some (.inl v10), some (.inl (mI h 39 ((v10 * 1024) + v8).toNatClampNeg)), some (.inl ((m_rem (mI h 39 ((v10 * 1024) + v8).toNatClampNeg) 2048) + 1))] _ _ _
            refine mw_iinc (pc' := 185) (v := v10 + 1) dX10_stepsFrom_182 rfl (by decide) rfl rfl ?_
            show mW _ _ _ _ _ [some (.inr (some 38)), none, some (.inl v2), none, some (.inl v4), none, none, none, some (.inl v8), some (.inl w3), some (.inl (v10 + 1)), some (.inl (mI h 39 ((v10 * 1024) + v8).toNatClampNeg)), some (.inl ((m_rem (mI h 39 ((v10 * 1024) + v8).toNatClampNeg) 2048) + 1))] _ _ _
            refine mw_goto (tgt := 102) dX10_stepsFrom_185 (by decide) ?_
            refine mw_weak (ls' := [some (.inr (some 38)), none, some (.inl v2), none, some (.inl v4), none, none, none, some (.inl v8), some (.inl w3), some (.inl (v10 + 1)), none, none]) ?_ ?_
            · intro i v hv; match i, hv with
              | 0, hv => exact hv
              | 1, hv => cases hv
              | 2, hv => exact hv
              | 3, hv => cases hv
              | 4, hv => exact hv
              | 5, hv => cases hv
              | 6, hv => cases hv
              | 7, hv => cases hv
              | 8, hv => exact hv
              | 9, hv => exact hv
              | 10, hv => exact hv
              | 11, hv => cases hv
              | 12, hv => cases hv
              | n + 13, hv => cases hv
            exact K
          refine mw_if_ne (pc' := 168) (tgt := 173) dX10_stepsFrom_165 rfl (by decide) (fun c5 => ?_) (fun c5 => ?_)
          · refine mw_iload (pc' := 175) dX10_stepsFrom_173 rfl rfl ?_
            refine mw_iload (pc' := 177) dX10_stepsFrom_175 rfl rfl ?_
            refine mw_mmin (pc' := 180) dX10_stepsFrom_177 rfl lkX10_69 (Nat.le_of_ble_eq_true rfl) ?_
            exact J4 _ (by rw [if_pos c5])
          · refine mw_iload (pc' := 170) dX10_stepsFrom_168 rfl rfl ?_
            refine mw_goto (tgt := 180) dX10_stepsFrom_170 (by decide) ?_
            exact J4 _ (by rw [if_neg (fun z => z c5)])
      refine mw_icmp_ne (pc' := 151) (tgt := 156) dX10_stepsFrom_148 rfl (by decide) (fun c8 => ?_) (fun c8 => ?_)
      · refine mw_iload (pc' := 158) dX10_stepsFrom_156 rfl rfl ?_
        refine mw_iconst (pc' := 159) (v := 1) dX10_stepsFrom_158 rfl (by decide) ?_
        refine mw_isub (pc' := 160) dX10_stepsFrom_159 rfl ?_
        exact J7 _ (by rw [if_pos c8])
      · refine mw_iload (pc' := 153) dX10_stepsFrom_151 rfl rfl ?_
        refine mw_goto (tgt := 160) dX10_stepsFrom_153 (by decide) ?_
        exact J7 _ (by rw [if_neg (fun z => z c8)])

set_option maxRecDepth 100000 in
set_option maxHeartbeats 4000000 in
theorem qX10_bestFirst {G : mG} {d : Nat} {b : Nat × Nat} {h : mH} {Q : Option mV → mH → Prop}  (hS : mSk h)
    (K : mW G kX10_bestFirst d b 4 [some (.inr (some 38)), some (.inl (-1)), some (.inl 3), none] [] h Q) : mC G kX10_bestFirst d b [.inr (some 38)] h Q := by
  refine mC_in rfl (Nat.le_of_ble_eq_true rfl) ?_
  show mW _ _ _ _ _ [some (.inr (some 38)), none, none, none] _ _ _
  refine mw_iconst (pc' := 1) (v := (-1)) dX10_bestFirst_0 rfl (by decide) ?_
  refine mw_istore_n (pc' := 2) dX10_bestFirst_1 rfl (by decide) ?_
  show mW _ _ _ _ _ [some (.inr (some 38)), some (.inl (-1)), none, none] _ _ _
  refine mw_iconst (pc' := 3) (v := 3) dX10_bestFirst_2 rfl (by decide) ?_
  refine mw_istore_n (pc' := 4) dX10_bestFirst_3 rfl (by decide) ?_
  show mW _ _ _ _ _ [some (.inr (some 38)), some (.inl (-1)), some (.inl 3), none] _ _ _
  exact K

set_option maxRecDepth 100000 in
set_option maxHeartbeats 4000000 in
theorem qX10_bestFirst_4 {G : mG} {d : Nat} {b : Nat × Nat} {h : mH} {Q : Option mV → mH → Prop} (v1 : Int32) (v2 : Int32) (hS : mSk h)
    (K : ((v2 < 0 → Q (some (.inl v1)) h) ∧ (¬ (v2 < 0) → vp_in ((v2 * 1024) + (mI h 38 5)) 4096 ∧ (((mI h 39 ((v2 * 1024) + (mI h 38 5)).toNatClampNeg) = 0 → mW G kX10_bestFirst d b 4 [some (.inr (some 38)), some (.inl v1), some (.inl (v2 + (-1))), none] [] h Q) ∧ (¬ (mI h 39 ((v2 * 1024) + (mI h 38 5)).toNatClampNeg) = 0 → ((v1 = (-1) → mW G kX10_bestFirst d b 4 [some (.inr (some 38)), some (.inl v2), some (.inl (v2 + (-1))), none] [] h Q) ∧ (¬ v1 = (-1) → vp_in ((v1 * 1024) + (mI h 38 5)) 4096 ∧ (((mI h 39 ((v1 * 1024) + (mI h 38 5)).toNatClampNeg) < (mI h 39 ((v2 * 1024) + (mI h 38 5)).toNatClampNeg) → mW G kX10_bestFirst d b 4 [some (.inr (some 38)), some (.inl v1), some (.inl (v2 + (-1))), none] [] h Q) ∧ (¬ ((mI h 39 ((v1 * 1024) + (mI h 38 5)).toNatClampNeg) < (mI h 39 ((v2 * 1024) + (mI h 38 5)).toNatClampNeg)) → mW G kX10_bestFirst d b 4 [some (.inr (some 38)), some (.inl v2), some (.inl (v2 + (-1))), none] [] h Q))))))))) : mW G kX10_bestFirst d b 4 [some (.inr (some 38)), some (.inl v1), some (.inl v2), none] [] h Q := by
  refine mw_iload_n (pc' := 5) dX10_bestFirst_4 rfl rfl ?_
  refine mw_if_lt (pc' := 8) (tgt := 60) dX10_bestFirst_5 rfl (by decide) (fun c6 => ?_) (fun c6 => ?_)
  · replace K := K.1 c6
    refine mw_iload_n (pc' := 61) dX10_bestFirst_60 rfl rfl ?_
    exact mw_iret dX10_bestFirst_61 rfl rfl K
  · replace K := K.2 c6
    refine mw_aload_n (pc' := 9) dX10_bestFirst_8 rfl rfl ?_
    refine mw_getR (pc' := 12) dX10_bestFirst_9 rfl flX10_9 rfl (skT_38 hS) ?_
    rw [skR_38_0 hS]
    refine mw_iload_n (pc' := 13) dX10_bestFirst_12 rfl rfl ?_
    refine mw_sipush (pc' := 16) (v := 1024) dX10_bestFirst_13 rfl (by decide) ?_
    refine mw_imul (pc' := 17) dX10_bestFirst_16 rfl ?_
    refine mw_aload_n (pc' := 18) dX10_bestFirst_17 rfl rfl ?_
    refine mw_getI (pc' := 21) dX10_bestFirst_18 rfl flX10_22 rfl (skT_38 hS) ?_
    refine mw_iadd (pc' := 22) dX10_bestFirst_21 rfl ?_
    obtain ⟨o1, K⟩ := K
    refine mw_ialdL (pc' := 23) dX10_bestFirst_22 rfl (skT_39 hS) (skL_39 hS) o1 ?_
    refine mw_istore_n (pc' := 24) dX10_bestFirst_23 rfl (by decide) ?_
    show mW _ _ _ _ _ [some (.inr (some 38)), some (.inl v1), some (.inl v2), some (.inl (mI h 39 ((v2 * 1024) + (mI h 38 5)).toNatClampNeg))] _ _ _
    refine mw_iload_n (pc' := 25) dX10_bestFirst_24 rfl rfl ?_
    refine mw_if_eq (pc' := 28) (tgt := 54) dX10_bestFirst_25 rfl (by decide) (fun c5 => ?_) (fun c5 => ?_)
    · replace K := K.1 c5
      refine mw_iinc (pc' := 57) (v := v2 + (-1)) dX10_bestFirst_54 rfl (by decide) rfl rfl ?_
      show mW _ _ _ _ _ [some (.inr (some 38)), some (.inl v1), some (.inl (v2 + (-1))), some (.inl (mI h 39 ((v2 * 1024) + (mI h 38 5)).toNatClampNeg))] _ _ _
      refine mw_goto (tgt := 4) dX10_bestFirst_57 (by decide) ?_
      refine mw_weak (ls' := [some (.inr (some 38)), some (.inl v1), some (.inl (v2 + (-1))), none]) ?_ ?_
      · intro i v hv; match i, hv with
        | 0, hv => exact hv
        | 1, hv => exact hv
        | 2, hv => exact hv
        | 3, hv => cases hv
        | n + 4, hv => cases hv
      exact K
    · replace K := K.2 c5
      refine mw_iload_n (pc' := 29) dX10_bestFirst_28 rfl rfl ?_
      refine mw_iconst (pc' := 30) (v := (-1)) dX10_bestFirst_29 rfl (by decide) ?_
      refine mw_icmp_eq (pc' := 33) (tgt := 52) dX10_bestFirst_30 rfl (by decide) (fun c4 => ?_) (fun c4 => ?_)
      · replace K := K.1 c4
        refine mw_iload_n (pc' := 53) dX10_bestFirst_52 rfl rfl ?_
        refine mw_istore_n (pc' := 54) dX10_bestFirst_53 rfl (by decide) ?_
        show mW _ _ _ _ _ [some (.inr (some 38)), some (.inl v2), some (.inl v2), some (.inl (mI h 39 ((v2 * 1024) + (mI h 38 5)).toNatClampNeg))] _ _ _
        refine mw_iinc (pc' := 57) (v := v2 + (-1)) dX10_bestFirst_54 rfl (by decide) rfl rfl ?_
        show mW _ _ _ _ _ [some (.inr (some 38)), some (.inl v2), some (.inl (v2 + (-1))), some (.inl (mI h 39 ((v2 * 1024) + (mI h 38 5)).toNatClampNeg))] _ _ _
        refine mw_goto (tgt := 4) dX10_bestFirst_57 (by decide) ?_
        refine mw_weak (ls' := [some (.inr (some 38)), some (.inl v2), some (.inl (v2 + (-1))), none]) ?_ ?_
        · intro i v hv; match i, hv with
          | 0, hv => exact hv
          | 1, hv => exact hv
          | 2, hv => exact hv
          | 3, hv => cases hv
          | n + 4, hv => cases hv
        exact K
      · replace K := K.2 c4
        refine mw_iload_n (pc' := 34) dX10_bestFirst_33 rfl rfl ?_
        refine mw_aload_n (pc' := 35) dX10_bestFirst_34 rfl rfl ?_
        refine mw_getR (pc' := 38) dX10_bestFirst_35 rfl flX10_9 rfl (skT_38 hS) ?_
        rw [skR_38_0 hS]
        refine mw_iload_n (pc' := 39) dX10_bestFirst_38 rfl rfl ?_
        refine mw_sipush (pc' := 42) (v := 1024) dX10_bestFirst_39 rfl (by decide) ?_
        refine mw_imul (pc' := 43) dX10_bestFirst_42 rfl ?_
        refine mw_aload_n (pc' := 44) dX10_bestFirst_43 rfl rfl ?_
        refine mw_getI (pc' := 47) dX10_bestFirst_44 rfl flX10_22 rfl (skT_38 hS) ?_
        refine mw_iadd (pc' := 48) dX10_bestFirst_47 rfl ?_
        obtain ⟨o2, K⟩ := K
        refine mw_ialdL (pc' := 49) dX10_bestFirst_48 rfl (skT_39 hS) (skL_39 hS) o2 ?_
        refine mw_icmp_gt (pc' := 52) (tgt := 54) dX10_bestFirst_49 rfl (by decide) (fun c3 => ?_) (fun c3 => ?_)
        · replace K := K.1 c3
          refine mw_iinc (pc' := 57) (v := v2 + (-1)) dX10_bestFirst_54 rfl (by decide) rfl rfl ?_
          show mW _ _ _ _ _ [some (.inr (some 38)), some (.inl v1), some (.inl (v2 + (-1))), some (.inl (mI h 39 ((v2 * 1024) + (mI h 38 5)).toNatClampNeg))] _ _ _
          refine mw_goto (tgt := 4) dX10_bestFirst_57 (by decide) ?_
          refine mw_weak (ls' := [some (.inr (some 38)), some (.inl v1), some (.inl (v2 + (-1))), none]) ?_ ?_
          · intro i v hv; match i, hv with
            | 0, hv => exact hv
            | 1, hv => exact hv
            | 2, hv => exact hv
            | 3, hv => cases hv
            | n + 4, hv => cases hv
          exact K
        · replace K := K.2 c3
          refine mw_iload_n (pc' := 53) dX10_bestFirst_52 rfl rfl ?_
          refine mw_istore_n (pc' := 54) dX10_bestFirst_53 rfl (by decide) ?_
          show mW _ _ _ _ _ [some (.inr (some 38)), some (.inl v2), some (.inl v2), some (.inl (mI h 39 ((v2 * 1024) + (mI h 38 5)).toNatClampNeg))] _ _ _
          refine mw_iinc (pc' := 57) (v := v2 + (-1)) dX10_bestFirst_54 rfl (by decide) rfl rfl ?_
          show mW _ _ _ _ _ [some (.inr (some 38)), some (.inl v2), some (.inl (v2 + (-1))), some (.inl (mI h 39 ((v2 * 1024) + (mI h 38 5)).toNatClampNeg))] _ _ _
          refine mw_goto (tgt := 4) dX10_bestFirst_57 (by decide) ?_
          refine mw_weak (ls' := [some (.inr (some 38)), some (.inl v2), some (.inl (v2 + (-1))), none]) ?_ ?_
          · intro i v hv; match i, hv with
            | 0, hv => exact hv
            | 1, hv => exact hv
            | 2, hv => exact hv
            | 3, hv => cases hv
            | n + 4, hv => cases hv
          exact K

set_option maxRecDepth 100000 in
set_option maxHeartbeats 4000000 in
theorem qX10_walk {G : mG} {d : Nat} {b : Nat × Nat} {h : mH} {Q : Option mV → mH → Prop}  (hS : mSk h)
    (K : mC G kX10_bestFirst (d + 1) (0, 0) [.inr (some 38)] h (fun r h1 => ∃ x2, r = some (.inl x2) ∧ mSk h1 ∧ ((¬ x2 = (-1) → vp_in ((x2 * 1024) + (mI h1 38 5)) 4096 ∧ ∀ h4, h4 = mSI h1 38 3 ((mI h1 39 ((x2 * 1024) + (mI h1 38 5)).toNatClampNeg) / 2048) → ∀ h5, h5 = mSI h4 38 4 (m_rem (mI h1 39 ((x2 * 1024) + (mI h1 38 5)).toNatClampNeg) 2048) → mW G kX10_walk (d + 2) b 53 [some (.inr (some 38)), some (.inl x2), some (.inl (mI h1 39 ((x2 * 1024) + (mI h1 38 5)).toNatClampNeg)), some (.inl (mI h5 38 5)), some (.inl 0)] [] h5 Q) ∧ (x2 = (-1) → Q none h1)))) : mC G kX10_walk (d + 2) b [.inr (some 38)] h Q := by
  refine mC_in rfl (Nat.le_of_ble_eq_true rfl) ?_
  show mW _ _ _ _ _ [some (.inr (some 38)), none, none, none, none] _ _ _
  refine mw_aload_n (pc' := 1) dX10_walk_0 rfl rfl ?_
  refine mw_callV (pc' := 4) (b' := (0, 0)) (b1 := b) (av := []) (rest := []) dX10_walk_1 rfl lkX10_48 rfl rfl (Nat.le_of_ble_eq_true rfl) ⟨Nat.le_of_eq (Nat.zero_add _), Nat.le_of_eq (Nat.zero_add _)⟩ (skT_38 hS) ?_
  refine mC_mono (fun r h1 hr => ?_) K
  obtain ⟨x2, rfl, hS, K⟩ := hr
  show mW _ _ _ _ _ _ [.inl x2] _ _
  refine mw_istore_n (pc' := 5) dX10_walk_4 rfl (by decide) ?_
  show mW _ _ _ _ _ [some (.inr (some 38)), some (.inl x2), none, none, none] _ _ _
  refine mw_iload_n (pc' := 6) dX10_walk_5 rfl rfl ?_
  refine mw_iconst (pc' := 7) (v := (-1)) dX10_walk_6 rfl (by decide) ?_
  refine mw_icmp_ne (pc' := 10) (tgt := 11) dX10_walk_7 rfl (by decide) (fun c6 => ?_) (fun c6 => ?_)
  · replace K := K.1 c6
    refine mw_aload_n (pc' := 12) dX10_walk_11 rfl rfl ?_
    refine mw_getR (pc' := 15) dX10_walk_12 rfl flX10_9 rfl (skT_38 hS) ?_
    rw [skR_38_0 hS]
    refine mw_iload_n (pc' := 16) dX10_walk_15 rfl rfl ?_
    refine mw_sipush (pc' := 19) (v := 1024) dX10_walk_16 rfl (by decide) ?_
    refine mw_imul (pc' := 20) dX10_walk_19 rfl ?_
    refine mw_aload_n (pc' := 21) dX10_walk_20 rfl rfl ?_
    refine mw_getI (pc' := 24) dX10_walk_21 rfl flX10_22 rfl (skT_38 hS) ?_
    refine mw_iadd (pc' := 25) dX10_walk_24 rfl ?_
    obtain ⟨o3, K⟩ := K
    refine mw_ialdL (pc' := 26) dX10_walk_25 rfl (skT_39 hS) (skL_39 hS) o3 ?_
    refine mw_istore_n (pc' := 27) dX10_walk_26 rfl (by decide) ?_
    show mW _ _ _ _ _ [some (.inr (some 38)), some (.inl x2), some (.inl (mI h1 39 ((x2 * 1024) + (mI h1 38 5)).toNatClampNeg)), none, none] _ _ _
    refine mw_aload_n (pc' := 28) dX10_walk_27 rfl rfl ?_
    refine mw_iload_n (pc' := 29) dX10_walk_28 rfl rfl ?_
    refine mw_sipush (pc' := 32) (v := 2048) dX10_walk_29 rfl (by decide) ?_
    refine mw_idiv (pc' := 33) dX10_walk_32 rfl (by decide) ?_
    refine mw_putIK (pc' := 36) dX10_walk_33 rfl flX10_32 rfl (Or.inl rfl) ⟨rfl, rfl⟩ (skT_38 hS) hS (fun h4 eh4 hS => ?_)
    replace K := K h4 eh4
    refine mw_aload_n (pc' := 37) dX10_walk_36 rfl rfl ?_
    refine mw_iload_n (pc' := 38) dX10_walk_37 rfl rfl ?_
    refine mw_sipush (pc' := 41) (v := 2048) dX10_walk_38 rfl (by decide) ?_
    refine mw_iremM (pc' := 42) dX10_walk_41 rfl (by decide) ?_
    refine mw_putIK (pc' := 45) dX10_walk_42 rfl flX10_35 rfl (Or.inl rfl) ⟨rfl, rfl⟩ (skT_38 hS) hS (fun h5 eh5 hS => ?_)
    replace K := K h5 eh5
    refine mw_aload_n (pc' := 46) dX10_walk_45 rfl rfl ?_
    refine mw_getI (pc' := 49) dX10_walk_46 rfl flX10_22 rfl (skT_38 hS) ?_
    refine mw_istore_n (pc' := 50) dX10_walk_49 rfl (by decide) ?_
    show mW _ _ _ _ _ [some (.inr (some 38)), some (.inl x2), some (.inl (mI h1 39 ((x2 * 1024) + (mI h1 38 5)).toNatClampNeg)), some (.inl (mI h5 38 5)), none] _ _ _
    refine mw_iconst (pc' := 51) (v := 0) dX10_walk_50 rfl (by decide) ?_
    refine mw_istore (pc' := 53) dX10_walk_51 rfl (by decide) ?_
    show mW _ _ _ _ _ [some (.inr (some 38)), some (.inl x2), some (.inl (mI h1 39 ((x2 * 1024) + (mI h1 38 5)).toNatClampNeg)), some (.inl (mI h5 38 5)), some (.inl 0)] _ _ _
    exact K
  · replace K := K.2 c6
    exact mw_ret dX10_walk_10 rfl K

set_option maxRecDepth 100000 in
set_option maxHeartbeats 4000000 in
theorem qX10_walk_53 {G : mG} {d : Nat} {b : Nat × Nat} {h : mH} {Q : Option mV → mH → Prop} (v1 : Int32) (v2 : Int32) (v3 : Int32) (v4 : Int32) (hS : mSk h)
    (K : ((100 ≤ v4 → Q none h) ∧ (¬ (100 ≤ v4) → (((mI h 38 4) ≤ v4 → Q none h) ∧ (¬ ((mI h 38 4) ≤ v4) → ((v1 = (-1) → Q none h) ∧ (¬ v1 = (-1) → vp_in v4 100 ∧ ∀ h2, h2 = mSI h 40 v4.toNatClampNeg v1 → vp_in v1 4 ∧ vp_in v1 4 ∧ mC G kX10_directionOn (d + 1) (0, 0) [.inr (some 38), .inl (v3 + (((mStY v1.toNatClampNeg) * 32) + (mStX v1.toNatClampNeg))), .inl v1, .inl (v2 + (-1))] h2 (fun r h5 => ∃ x6, r = some (.inl x6) ∧ mSk h5 ∧ ((x6 = (-1) → mW G kX10_walk (d + 2) b 53 [some (.inr (some 38)), some (.inl x6), some (.inl (v2 + (-1))), some (.inl (v3 + (((mStY v1.toNatClampNeg) * 32) + (mStX v1.toNatClampNeg)))), some (.inl (v4 + 1))] [] h5 Q) ∧ (¬ x6 = (-1) → vp_in v4 100 ∧ ((x6 = (mI h5 40 v4.toNatClampNeg) → mW G kX10_walk (d + 2) b 53 [some (.inr (some 38)), some (.inl x6), some (.inl (v2 + (-1))), some (.inl (v3 + (((mStY v1.toNatClampNeg) * 32) + (mStX v1.toNatClampNeg)))), some (.inl (v4 + 1))] [] h5 Q) ∧ (¬ x6 = (mI h5 40 v4.toNatClampNeg) → mW G kX10_walk (d + 2) b 53 [some (.inr (some 38)), some (.inl x6), some (.inl ((v2 + (-1)) + (-2048))), some (.inl (v3 + (((mStY v1.toNatClampNeg) * 32) + (mStX v1.toNatClampNeg)))), some (.inl (v4 + 1))] [] h5 Q)))))))))))) : mW G kX10_walk (d + 2) b 53 [some (.inr (some 38)), some (.inl v1), some (.inl v2), some (.inl v3), some (.inl v4)] [] h Q := by
  refine mw_iload (pc' := 55) dX10_walk_53 rfl rfl ?_
  refine mw_bipush (pc' := 57) (v := 100) dX10_walk_55 rfl (by decide) ?_
  refine mw_icmp_ge (pc' := 60) (tgt := 138) dX10_walk_57 rfl (by decide) (fun c12 => ?_) (fun c12 => ?_)
  · replace K := K.1 c12
    exact mw_ret dX10_walk_138 rfl K
  · replace K := K.2 c12
    refine mw_iload (pc' := 62) dX10_walk_60 rfl rfl ?_
    refine mw_aload_n (pc' := 63) dX10_walk_62 rfl rfl ?_
    refine mw_getI (pc' := 66) dX10_walk_63 rfl flX10_35 rfl (skT_38 hS) ?_
    refine mw_icmp_ge (pc' := 69) (tgt := 138) dX10_walk_66 rfl (by decide) (fun c11 => ?_) (fun c11 => ?_)
    · replace K := K.1 c11
      exact mw_ret dX10_walk_138 rfl K
    · replace K := K.2 c11
      refine mw_iload_n (pc' := 70) dX10_walk_69 rfl rfl ?_
      refine mw_iconst (pc' := 71) (v := (-1)) dX10_walk_70 rfl (by decide) ?_
      refine mw_icmp_eq (pc' := 74) (tgt := 138) dX10_walk_71 rfl (by decide) (fun c10 => ?_) (fun c10 => ?_)
      · replace K := K.1 c10
        exact mw_ret dX10_walk_138 rfl K
      · replace K := K.2 c10
        refine mw_aload_n (pc' := 75) dX10_walk_74 rfl rfl ?_
        refine mw_getR (pc' := 78) dX10_walk_75 rfl flX10_15 rfl (skT_38 hS) ?_
        rw [skR_38_1 hS]
        refine mw_iload (pc' := 80) dX10_walk_78 rfl rfl ?_
        refine mw_iload_n (pc' := 81) dX10_walk_80 rfl rfl ?_
        obtain ⟨o1, K⟩ := K
        refine mw_iastK (pc' := 82) dX10_walk_81 rfl (skT_40 hS) (skL_40 hS) o1 hS (fun h2 eh2 hS => ?_)
        replace K := K h2 eh2
        refine mw_iload_n (pc' := 83) dX10_walk_82 rfl rfl ?_
        refine mw_getsC (pc' := 86) (i := 2) dX10_walk_83 rfl (Or.inr ⟨rfl, gsX10_62⟩) ?_
        refine mw_iload_n (pc' := 87) dX10_walk_86 rfl rfl ?_
        obtain ⟨o3, K⟩ := K
        refine mw_stepY (pc' := 88) dX10_walk_87 rfl o3 ?_
        refine mw_bipush (pc' := 90) (v := 32) dX10_walk_88 rfl (by decide) ?_
        refine mw_imul (pc' := 91) dX10_walk_90 rfl ?_
        refine mw_getsC (pc' := 94) (i := 1) dX10_walk_91 rfl (Or.inl ⟨rfl, gsX10_59⟩) ?_
        refine mw_iload_n (pc' := 95) dX10_walk_94 rfl rfl ?_
        obtain ⟨o4, K⟩ := K
        refine mw_stepX (pc' := 96) dX10_walk_95 rfl o4 ?_
        refine mw_iadd (pc' := 97) dX10_walk_96 rfl ?_
        refine mw_iadd (pc' := 98) dX10_walk_97 rfl ?_
        refine mw_istore_n (pc' := 99) dX10_walk_98 rfl (by decide) ?_
        show mW _ _ _ _ _ [some (.inr (some 38)), some (.inl v1), some (.inl v2), some (.inl (v3 + (((mStY v1.toNatClampNeg) * 32) + (mStX v1.toNatClampNeg)))), some (.inl v4)] _ _ _
        refine mw_iinc (pc' := 102) (v := v2 + (-1)) dX10_walk_99 rfl (by decide) rfl rfl ?_
        show mW _ _ _ _ _ [some (.inr (some 38)), some (.inl v1), some (.inl (v2 + (-1))), some (.inl (v3 + (((mStY v1.toNatClampNeg) * 32) + (mStX v1.toNatClampNeg)))), some (.inl v4)] _ _ _
        refine mw_aload_n (pc' := 103) dX10_walk_102 rfl rfl ?_
        refine mw_iload_n (pc' := 104) dX10_walk_103 rfl rfl ?_
        refine mw_iload_n (pc' := 105) dX10_walk_104 rfl rfl ?_
        refine mw_iload_n (pc' := 106) dX10_walk_105 rfl rfl ?_
        refine mw_callV (pc' := 109) (b' := (0, 0)) (b1 := b) (av := [.inl (v3 + (((mStY v1.toNatClampNeg) * 32) + (mStX v1.toNatClampNeg))), .inl v1, .inl (v2 + (-1))]) (rest := []) dX10_walk_106 rfl lkX10_75 rfl rfl (Nat.le_of_ble_eq_true rfl) ⟨Nat.le_of_eq (Nat.zero_add _), Nat.le_of_eq (Nat.zero_add _)⟩ (skT_38 hS) ?_
        refine mC_mono (fun r h5 hr => ?_) K
        obtain ⟨x6, rfl, hS, K⟩ := hr
        show mW _ _ _ _ _ _ [.inl x6] _ _
        refine mw_istore_n (pc' := 110) dX10_walk_109 rfl (by decide) ?_
        show mW _ _ _ _ _ [some (.inr (some 38)), some (.inl x6), some (.inl (v2 + (-1))), some (.inl (v3 + (((mStY v1.toNatClampNeg) * 32) + (mStX v1.toNatClampNeg)))), some (.inl v4)] _ _ _
        refine mw_iload_n (pc' := 111) dX10_walk_110 rfl rfl ?_
        refine mw_iconst (pc' := 112) (v := (-1)) dX10_walk_111 rfl (by decide) ?_
        refine mw_icmp_eq (pc' := 115) (tgt := 132) dX10_walk_112 rfl (by decide) (fun c9 => ?_) (fun c9 => ?_)
        · replace K := K.1 c9
          refine mw_iinc (pc' := 135) (v := v4 + 1) dX10_walk_132 rfl (by decide) rfl rfl ?_
          show mW _ _ _ _ _ [some (.inr (some 38)), some (.inl x6), some (.inl (v2 + (-1))), some (.inl (v3 + (((mStY v1.toNatClampNeg) * 32) + (mStX v1.toNatClampNeg)))), some (.inl (v4 + 1))] _ _ _
          refine mw_goto (tgt := 53) dX10_walk_135 (by decide) ?_
          exact K
        · replace K := K.2 c9
          refine mw_iload_n (pc' := 116) dX10_walk_115 rfl rfl ?_
          refine mw_aload_n (pc' := 117) dX10_walk_116 rfl rfl ?_
          refine mw_getR (pc' := 120) dX10_walk_117 rfl flX10_15 rfl (skT_38 hS) ?_
          rw [skR_38_1 hS]
          refine mw_iload (pc' := 122) dX10_walk_120 rfl rfl ?_
          obtain ⟨o7, K⟩ := K
          refine mw_ialdL (pc' := 123) dX10_walk_122 rfl (skT_40 hS) (skL_40 hS) o7 ?_
          refine mw_icmp_eq (pc' := 126) (tgt := 132) dX10_walk_123 rfl (by decide) (fun c8 => ?_) (fun c8 => ?_)
          · replace K := K.1 c8
            refine mw_iinc (pc' := 135) (v := v4 + 1) dX10_walk_132 rfl (by decide) rfl rfl ?_
            show mW _ _ _ _ _ [some (.inr (some 38)), some (.inl x6), some (.inl (v2 + (-1))), some (.inl (v3 + (((mStY v1.toNatClampNeg) * 32) + (mStX v1.toNatClampNeg)))), some (.inl (v4 + 1))] _ _ _
            refine mw_goto (tgt := 53) dX10_walk_135 (by decide) ?_
            exact K
          · replace K := K.2 c8
            refine mw_iincw (pc' := 132) (v := (v2 + (-1)) + (-2048)) dX10_walk_126 rfl (by decide) rfl rfl ?_
            show mW _ _ _ _ _ [some (.inr (some 38)), some (.inl x6), some (.inl ((v2 + (-1)) + (-2048))), some (.inl (v3 + (((mStY v1.toNatClampNeg) * 32) + (mStX v1.toNatClampNeg)))), some (.inl v4)] _ _ _
            refine mw_iinc (pc' := 135) (v := v4 + 1) dX10_walk_132 rfl (by decide) rfl rfl ?_
            show mW _ _ _ _ _ [some (.inr (some 38)), some (.inl x6), some (.inl ((v2 + (-1)) + (-2048))), some (.inl (v3 + (((mStY v1.toNatClampNeg) * 32) + (mStX v1.toNatClampNeg)))), some (.inl (v4 + 1))] _ _ _
            refine mw_goto (tgt := 53) dX10_walk_135 (by decide) ?_
            exact K

set_option maxRecDepth 100000 in
set_option maxHeartbeats 4000000 in
theorem qX10_directionOn {G : mG} {d : Nat} {b : Nat × Nat} {h : mH} {Q : Option mV → mH → Prop} (v1 : Int32) (v2 : Int32) (v3 : Int32) (hS : mSk h)
    (K : mW G kX10_directionOn (d + 1) b 3 [some (.inr (some 38)), some (.inl v1), some (.inl v2), some (.inl v3), some (.inl 0), none] [] h Q) : mC G kX10_directionOn (d + 1) b [.inr (some 38), .inl v1, .inl v2, .inl v3] h Q := by
  refine mC_in rfl (Nat.le_of_ble_eq_true rfl) ?_
  show mW _ _ _ _ _ [some (.inr (some 38)), some (.inl v1), some (.inl v2), some (.inl v3), none, none] _ _ _
  refine mw_iconst (pc' := 1) (v := 0) dX10_directionOn_0 rfl (by decide) ?_
  refine mw_istore (pc' := 3) dX10_directionOn_1 rfl (by decide) ?_
  show mW _ _ _ _ _ [some (.inr (some 38)), some (.inl v1), some (.inl v2), some (.inl v3), some (.inl 0), none] _ _ _
  exact K

set_option maxRecDepth 100000 in
set_option maxHeartbeats 4000000 in
theorem qX10_directionOn_3 {G : mG} {d : Nat} {b : Nat × Nat} {h : mH} {Q : Option mV → mH → Prop} (v1 : Int32) (v2 : Int32) (v3 : Int32) (v4 : Int32) (hS : mSk h)
    (K : ((4 ≤ v4 → Q (some (.inl (-1))) h) ∧ (¬ (4 ≤ v4) → ∀ w1 : Int32, w1 = (if ¬ v4 = v2 then (v3 - 2048) else v3) → ((w1 ≤ 0 → mW G kX10_directionOn (d + 1) b 3 [some (.inr (some 38)), some (.inl v1), some (.inl v2), some (.inl v3), some (.inl (v4 + 1)), none] [] h Q) ∧ (¬ (w1 ≤ 0) → (((f_X11_within v1 0 1023) = 0 → mW G kX10_directionOn (d + 1) b 3 [some (.inr (some 38)), some (.inl v1), some (.inl v2), some (.inl v3), some (.inl (v4 + 1)), none] [] h Q) ∧ (¬ (f_X11_within v1 0 1023) = 0 → vp_in ((v4 * 1024) + v1) 4096 ∧ ((¬ (mI h 39 ((v4 * 1024) + v1).toNatClampNeg) = w1 → mW G kX10_directionOn (d + 1) b 3 [some (.inr (some 38)), some (.inl v1), some (.inl v2), some (.inl v3), some (.inl (v4 + 1)), none] [] h Q) ∧ ((mI h 39 ((v4 * 1024) + v1).toNatClampNeg) = w1 → Q (some (.inl v4)) h))))))))) : mW G kX10_directionOn (d + 1) b 3 [some (.inr (some 38)), some (.inl v1), some (.inl v2), some (.inl v3), some (.inl v4), none] [] h Q := by
  refine mw_iload (pc' := 5) dX10_directionOn_3 rfl rfl ?_
  refine mw_iconst (pc' := 6) (v := 4) dX10_directionOn_5 rfl (by decide) ?_
  refine mw_icmp_ge (pc' := 9) (tgt := 69) dX10_directionOn_6 rfl (by decide) (fun c8 => ?_) (fun c8 => ?_)
  · replace K := K.1 c8
    refine mw_iconst (pc' := 70) (v := (-1)) dX10_directionOn_69 rfl (by decide) ?_
    exact mw_iret dX10_directionOn_70 rfl rfl K
  · replace K := K.2 c8
    refine mw_iload (pc' := 11) dX10_directionOn_9 rfl rfl ?_
    refine mw_iload_n (pc' := 12) dX10_directionOn_11 rfl rfl ?_
    have J6 : ∀ w1 : Int32, w1 = (if ¬ v4 = v2 then (v3 - 2048) else v3) → mW G kX10_directionOn (d + 1) b 24 [some (.inr (some 38)), some (.inl v1), some (.inl v2), some (.inl v3), some (.inl v4), none] ([.inl w1]) h Q := by
      intro w1 ew1
      replace K := K w1 ew1
      refine mw_istore (pc' := 26) dX10_directionOn_24 rfl (by decide) ?_
      show mW _ _ _ _ _ [some (.inr (some 38)), some (.inl v1), some (.inl v2), some (.inl v3), some (.inl v4), some (.inl w1)] _ _ _
      refine mw_iload (pc' := 28) dX10_directionOn_26 rfl rfl ?_
      refine mw_if_le (pc' := 31) (tgt := 63) dX10_directionOn_28 rfl (by decide) (fun c5 => ?_) (fun c5 => ?_)
      · replace K := K.1 c5
        refine mw_iinc (pc' := 66) (v := v4 + 1) dX10_directionOn_63 rfl (by decide) rfl rfl ?_
        show mW _ _ _ _ _ [some (.inr (some 38)), some (.inl v1), some (.inl v2), some (.inl v3), some (.inl (v4 + 1)), some (.inl w1)] _ _ _
        refine mw_goto (tgt := 3) dX10_directionOn_66 (by decide) ?_
        refine mw_weak (ls' := [some (.inr (some 38)), some (.inl v1), some (.inl v2), some (.inl v3), some (.inl (v4 + 1)), none]) ?_ ?_
        · intro i v hv; match i, hv with
          | 0, hv => exact hv
          | 1, hv => exact hv
          | 2, hv => exact hv
          | 3, hv => exact hv
          | 4, hv => exact hv
          | 5, hv => cases hv
          | n + 6, hv => cases hv
        exact K
      · replace K := K.2 c5
        refine mw_iload_n (pc' := 32) dX10_directionOn_31 rfl rfl ?_
        refine mw_iconst (pc' := 33) (v := 0) dX10_directionOn_32 rfl (by decide) ?_
        refine mw_sipush (pc' := 36) (v := 1023) dX10_directionOn_33 rfl (by decide) ?_
        refine mw_callS (pc' := 39) (b' := (0, 0)) (b1 := b) (av := [.inl v1, .inl 0, .inl 1023]) (rest := []) dX10_directionOn_36 rfl lkX10_79 rfl rfl (Nat.le_of_ble_eq_true rfl) ⟨Nat.le_of_eq (Nat.zero_add _), Nat.le_of_eq (Nat.zero_add _)⟩ ?_
        refine pX11_within ?_
        refine mw_if_eq (pc' := 42) (tgt := 63) dX10_directionOn_39 rfl (by decide) (fun c4 => ?_) (fun c4 => ?_)
        · replace K := K.1 c4
          refine mw_iinc (pc' := 66) (v := v4 + 1) dX10_directionOn_63 rfl (by decide) rfl rfl ?_
          show mW _ _ _ _ _ [some (.inr (some 38)), some (.inl v1), some (.inl v2), some (.inl v3), some (.inl (v4 + 1)), some (.inl w1)] _ _ _
          refine mw_goto (tgt := 3) dX10_directionOn_66 (by decide) ?_
          refine mw_weak (ls' := [some (.inr (some 38)), some (.inl v1), some (.inl v2), some (.inl v3), some (.inl (v4 + 1)), none]) ?_ ?_
          · intro i v hv; match i, hv with
            | 0, hv => exact hv
            | 1, hv => exact hv
            | 2, hv => exact hv
            | 3, hv => exact hv
            | 4, hv => exact hv
            | 5, hv => cases hv
            | n + 6, hv => cases hv
          exact K
        · replace K := K.2 c4
          refine mw_aload_n (pc' := 43) dX10_directionOn_42 rfl rfl ?_
          refine mw_getR (pc' := 46) dX10_directionOn_43 rfl flX10_9 rfl (skT_38 hS) ?_
          rw [skR_38_0 hS]
          refine mw_iload (pc' := 48) dX10_directionOn_46 rfl rfl ?_
          refine mw_sipush (pc' := 51) (v := 1024) dX10_directionOn_48 rfl (by decide) ?_
          refine mw_imul (pc' := 52) dX10_directionOn_51 rfl ?_
          refine mw_iload_n (pc' := 53) dX10_directionOn_52 rfl rfl ?_
          refine mw_iadd (pc' := 54) dX10_directionOn_53 rfl ?_
          obtain ⟨o2, K⟩ := K
          refine mw_ialdL (pc' := 55) dX10_directionOn_54 rfl (skT_39 hS) (skL_39 hS) o2 ?_
          refine mw_iload (pc' := 57) dX10_directionOn_55 rfl rfl ?_
          refine mw_icmp_ne (pc' := 60) (tgt := 63) dX10_directionOn_57 rfl (by decide) (fun c3 => ?_) (fun c3 => ?_)
          · replace K := K.1 c3
            refine mw_iinc (pc' := 66) (v := v4 + 1) dX10_directionOn_63 rfl (by decide) rfl rfl ?_
            show mW _ _ _ _ _ [some (.inr (some 38)), some (.inl v1), some (.inl v2), some (.inl v3), some (.inl (v4 + 1)), some (.inl w1)] _ _ _
            refine mw_goto (tgt := 3) dX10_directionOn_66 (by decide) ?_
            refine mw_weak (ls' := [some (.inr (some 38)), some (.inl v1), some (.inl v2), some (.inl v3), some (.inl (v4 + 1)), none]) ?_ ?_
            · intro i v hv; match i, hv with
              | 0, hv => exact hv
              | 1, hv => exact hv
              | 2, hv => exact hv
              | 3, hv => exact hv
              | 4, hv => exact hv
              | 5, hv => cases hv
              | n + 6, hv => cases hv
            exact K
          · replace K := K.2 c3
            refine mw_iload (pc' := 62) dX10_directionOn_60 rfl rfl ?_
            exact mw_iret dX10_directionOn_62 rfl rfl K
    refine mw_icmp_ne (pc' := 15) (tgt := 19) dX10_directionOn_12 rfl (by decide) (fun c7 => ?_) (fun c7 => ?_)
    · refine mw_iload_n (pc' := 20) dX10_directionOn_19 rfl rfl ?_
      refine mw_sipush (pc' := 23) (v := 2048) dX10_directionOn_20 rfl (by decide) ?_
      refine mw_isub (pc' := 24) dX10_directionOn_23 rfl ?_
      exact J6 _ (by rw [if_pos c7])
    · refine mw_iload_n (pc' := 16) dX10_directionOn_15 rfl rfl ?_
      refine mw_goto (tgt := 24) dX10_directionOn_16 (by decide) ?_
      exact J6 _ (by rw [if_neg (fun z => z c7)])
