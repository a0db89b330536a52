set_option maxRecDepth 100000 in
set_option maxHeartbeats 4000000 in
theorem qX11_feed {G : mG} {d : Nat} {b : Nat × Nat} {h : mH} {Q : Option mV → mH → Prop} (v1 : Int32) (v2 : Int32) (v3 : Int32) (v4 : Int32) (v5 : Int32) (hS : mSk h)
    (K : ((((mI h 9 1) + 20) ≤ 220 → mC G kX9_put d (0, 0) [.inr (some 9), .inl v1] h (fun r h1 => r = none ∧ mSk h1 ∧ mC G kX9_put d (0, 0) [.inr (some 9), .inl v2] h1 (fun r h2 => r = none ∧ mSk h2 ∧ mC G kX9_put d (0, 0) [.inr (some 9), .inl v3] h2 (fun r h3 => r = none ∧ mSk h3 ∧ mC G kX9_put d (0, 0) [.inr (some 9), .inl v4] h3 (fun r h4 => r = none ∧ mSk h4 ∧ mC G kX9_put d (0, 0) [.inr (some 9), .inl v5] h4 (fun r h5 => r = none ∧ mSk h5 ∧ Q (some (.inl (mI h5 9 1))) h5)))))) ∧ (¬ (((mI h 9 1) + 20) ≤ 220) → Q (some (.inl (-1))) h))) : mC G kX11_feed (d + 1) b [.inr (some 8), .inl v1, .inl v2, .inl v3, .inl v4, .inl v5] h Q := by
  refine mC_in rfl (Nat.le_of_ble_eq_true rfl) ?_
  show mW _ _ _ _ _ [some (.inr (some 8)), some (.inl v1), some (.inl v2), some (.inl v3), some (.inl v4), some (.inl v5)] _ _ _
  refine mw_aload_n (pc' := 1) dX11_feed_0 rfl rfl ?_
  refine mw_getR (pc' := 4) dX11_feed_1 rfl flX11_12 rfl (skT_8 hS) ?_
  rw [skR_8_0 hS]
  refine mw_getI (pc' := 7) dX11_feed_4 rfl flX11_60 rfl (skT_9 hS) ?_
  refine mw_bipush (pc' := 9) (v := 20) dX11_feed_7 rfl (by decide) ?_
  refine mw_iadd (pc' := 10) dX11_feed_9 rfl ?_
  refine mw_sipush (pc' := 13) (v := 220) dX11_feed_10 rfl (by decide) ?_
  refine mw_icmp_le (pc' := 16) (tgt := 18) dX11_feed_13 rfl (by decide) (fun c6 => ?_) (fun c6 => ?_)
  · replace K := K.1 c6
    refine mw_aload_n (pc' := 19) dX11_feed_18 rfl rfl ?_
    refine mw_getR (pc' := 22) dX11_feed_19 rfl flX11_12 rfl (skT_8 hS) ?_
    rw [skR_8_0 hS]
    refine mw_iload_n (pc' := 23) dX11_feed_22 rfl rfl ?_
    refine mw_callV (pc' := 26) (b' := (0, 0)) (b1 := b) (av := [.inl v1]) (rest := []) dX11_feed_23 rfl lkX11_63 rfl rfl (Nat.le_of_ble_eq_true rfl) ⟨Nat.le_of_eq (Nat.zero_add _), Nat.le_of_eq (Nat.zero_add _)⟩ (skT_9 hS) ?_
    refine mC_mono (fun r h1 hr => ?_) K
    obtain ⟨rfl, hS, K⟩ := hr
    show mW _ _ _ _ _ _ [] _ _
    refine mw_aload_n (pc' := 27) dX11_feed_26 rfl rfl ?_
    refine mw_getR (pc' := 30) dX11_feed_27 rfl flX11_12 rfl (skT_8 hS) ?_
    rw [skR_8_0 hS]
    refine mw_iload_n (pc' := 31) dX11_feed_30 rfl rfl ?_
    refine mw_callV (pc' := 34) (b' := (0, 0)) (b1 := b) (av := [.inl v2]) (rest := []) dX11_feed_31 rfl lkX11_63 rfl rfl (Nat.le_of_ble_eq_true rfl) ⟨Nat.le_of_eq (Nat.zero_add _), Nat.le_of_eq (Nat.zero_add _)⟩ (skT_9 hS) ?_
    refine mC_mono (fun r h2 hr => ?_) K
    obtain ⟨rfl, hS, K⟩ := hr
    show mW _ _ _ _ _ _ [] _ _
    refine mw_aload_n (pc' := 35) dX11_feed_34 rfl rfl ?_
    refine mw_getR (pc' := 38) dX11_feed_35 rfl flX11_12 rfl (skT_8 hS) ?_
    rw [skR_8_0 hS]
    refine mw_iload_n (pc' := 39) dX11_feed_38 rfl rfl ?_
    refine mw_callV (pc' := 42) (b' := (0, 0)) (b1 := b) (av := [.inl v3]) (rest := []) dX11_feed_39 rfl lkX11_63 rfl rfl (Nat.le_of_ble_eq_true rfl) ⟨Nat.le_of_eq (Nat.zero_add _), Nat.le_of_eq (Nat.zero_add _)⟩ (skT_9 hS) ?_
    refine mC_mono (fun r h3 hr => ?_) K
    obtain ⟨rfl, hS, K⟩ := hr
    show mW _ _ _ _ _ _ [] _ _
    refine mw_aload_n (pc' := 43) dX11_feed_42 rfl rfl ?_
    refine mw_getR (pc' := 46) dX11_feed_43 rfl flX11_12 rfl (skT_8 hS) ?_
    rw [skR_8_0 hS]
    refine mw_iload (pc' := 48) dX11_feed_46 rfl rfl ?_
    refine mw_callV (pc' := 51) (b' := (0, 0)) (b1 := b) (av := [.inl v4]) (rest := []) dX11_feed_48 rfl lkX11_63 rfl rfl (Nat.le_of_ble_eq_true rfl) ⟨Nat.le_of_eq (Nat.zero_add _), Nat.le_of_eq (Nat.zero_add _)⟩ (skT_9 hS) ?_
    refine mC_mono (fun r h4 hr => ?_) K
    obtain ⟨rfl, hS, K⟩ := hr
    show mW _ _ _ _ _ _ [] _ _
    refine mw_aload_n (pc' := 52) dX11_feed_51 rfl rfl ?_
    refine mw_getR (pc' := 55) dX11_feed_52 rfl flX11_12 rfl (skT_8 hS) ?_
    rw [skR_8_0 hS]
    refine mw_iload (pc' := 57) dX11_feed_55 rfl rfl ?_
    refine mw_callV (pc' := 60) (b' := (0, 0)) (b1 := b) (av := [.inl v5]) (rest := []) dX11_feed_57 rfl lkX11_63 rfl rfl (Nat.le_of_ble_eq_true rfl) ⟨Nat.le_of_eq (Nat.zero_add _), Nat.le_of_eq (Nat.zero_add _)⟩ (skT_9 hS) ?_
    refine mC_mono (fun r h5 hr => ?_) K
    obtain ⟨rfl, hS, K⟩ := hr
    show mW _ _ _ _ _ _ [] _ _
    refine mw_aload_n (pc' := 61) dX11_feed_60 rfl rfl ?_
    refine mw_getR (pc' := 64) dX11_feed_61 rfl flX11_12 rfl (skT_8 hS) ?_
    rw [skR_8_0 hS]
    refine mw_getI (pc' := 67) dX11_feed_64 rfl flX11_60 rfl (skT_9 hS) ?_
    exact mw_iret dX11_feed_67 rfl rfl K
  · replace K := K.2 c6
    refine mw_iconst (pc' := 17) (v := (-1)) dX11_feed_16 rfl (by decide) ?_
    exact mw_iret dX11_feed_17 rfl rfl K

set_option maxRecDepth 100000 in
set_option maxHeartbeats 4000000 in
theorem qX11_coast {G : mG} {d : Nat} {b1 b2 : Nat} {h : mH} {Q : Option mV → mH → Prop} (v1 : Int32) (hS : mSk h)
    (K : ∀ w1 : Int32, w1 = (if (f_X11_within v1 4 16) = 0 then 0 else (if ¬ (v1 &&& 1) = 0 then 0 else 1)) → ((w1 = 0 → Q (some (.inl (-1))) h) ∧ (¬ w1 = 0 → ((8 ≤ (mI h 33 1) → Q (some (.inl (-1))) h) ∧ (¬ (8 ≤ (mI h 33 1)) → (((3 * v1) ≤ (mI h 9 1) → mC G kX9_badCoastPlace (d + 3) (0, 0) [.inr (some 9), .inl v1] h (fun r h2 => ∃ x3, r = some (.inl x3) ∧ mSk h2 ∧ ((¬ x3 = (-1) → ∀ h4, h4 = mSI h2 9 1 0 → ((¬ x3 = (-1) → Q (some (.inl ((-1000) - x3))) h4) ∧ (x3 = (-1) → Q (some (.inl ((mI h4 33 1) - 1))) h4))) ∧ (x3 = (-1) → ∀ h6, h6 = mAl h2 2 0 → mC G kX1_init (d + 3) (8, 5748) [.inr (some (mN h2)), .inl (mI h6 33 1), .inl v1] h6 (fun r h8 => r = none ∧ mSk h8 ∧ mT h8 (mN h2) = 2 ∧ mW G kX11_coast (d + 4) (b1, b2) 87 [some (.inr (some 8)), some (.inl v1), none, some (.inl x3), some (.inr (some (mN h2))), some (.inl 0)] [] h8 Q))))) ∧ (¬ ((3 * v1) ≤ (mI h 9 1)) → Q (some (.inl (-1))) h))))))) : mC G kX11_coast (d + 4) (b1 + 9, b2 + 5760) [.inr (some 8), .inl v1] h Q := by
  refine mC_in rfl (Nat.le_of_ble_eq_true rfl) ?_
  show mW _ _ _ _ _ [some (.inr (some 8)), some (.inl v1), none, none, none, none] _ _ _
  refine mw_iload_n (pc' := 1) dX11_coast_0 rfl rfl ?_
  refine mw_iconst (pc' := 2) (v := 4) dX11_coast_1 rfl (by decide) ?_
  refine mw_bipush (pc' := 4) (v := 16) dX11_coast_2 rfl (by decide) ?_
  refine mw_callS (pc' := 7) (b' := (0, 0)) (b1 := (b1 + 9, b2 + 5760)) (av := [.inl v1, .inl 4, .inl 16]) (rest := []) dX11_coast_4 rfl lkX11_67 rfl rfl (Nat.le_of_ble_eq_true rfl) ⟨Nat.le_of_eq (Nat.zero_add _), Nat.le_of_eq (Nat.zero_add _)⟩ ?_
  refine pX11_within ?_
  have J13 : ∀ w1 : Int32, w1 = (if (f_X11_within v1 4 16) = 0 then 0 else (if ¬ (v1 &&& 1) = 0 then 0 else 1)) → mW G kX11_coast (d + 4) (b1 + 9, b2 + 5760) 21 [some (.inr (some 8)), some (.inl v1), none, none, none, none] ([.inl w1]) h Q := by
    intro w1 ew1
    replace K := K w1 ew1
    refine mw_istore_n (pc' := 22) dX11_coast_21 rfl (by decide) ?_
    show mW _ _ _ _ _ [some (.inr (some 8)), some (.inl v1), some (.inl w1), none, none, none] _ _ _
    refine mw_iload_n (pc' := 23) dX11_coast_22 rfl rfl ?_
    refine mw_if_eq (pc' := 26) (tgt := 51) dX11_coast_23 rfl (by decide) (fun c12 => ?_) (fun c12 => ?_)
    · replace K := K.1 c12
      refine mw_iconst (pc' := 52) (v := (-1)) dX11_coast_51 rfl (by decide) ?_
      exact mw_iret dX11_coast_52 rfl rfl K
    · replace K := K.2 c12
      refine mw_aload_n (pc' := 27) dX11_coast_26 rfl rfl ?_
      refine mw_getR (pc' := 30) dX11_coast_27 rfl flX11_38 rfl (skT_8 hS) ?_
      rw [skR_8_4 hS]
      refine mw_getI (pc' := 33) dX11_coast_30 rfl flX11_71 rfl (skT_33 hS) ?_
      refine mw_bipush (pc' := 35) (v := 8) dX11_coast_33 rfl (by decide) ?_
      refine mw_icmp_ge (pc' := 38) (tgt := 51) dX11_coast_35 rfl (by decide) (fun c11 => ?_) (fun c11 => ?_)
      · replace K := K.1 c11
        refine mw_iconst (pc' := 52) (v := (-1)) dX11_coast_51 rfl (by decide) ?_
        exact mw_iret dX11_coast_52 rfl rfl K
      · replace K := K.2 c11
        refine mw_aload_n (pc' := 39) dX11_coast_38 rfl rfl ?_
        refine mw_getR (pc' := 42) dX11_coast_39 rfl flX11_12 rfl (skT_8 hS) ?_
        rw [skR_8_0 hS]
        refine mw_getI (pc' := 45) dX11_coast_42 rfl flX11_60 rfl (skT_9 hS) ?_
        refine mw_iconst (pc' := 46) (v := 3) dX11_coast_45 rfl (by decide) ?_
        refine mw_iload_n (pc' := 47) dX11_coast_46 rfl rfl ?_
        refine mw_imul (pc' := 48) dX11_coast_47 rfl ?_
        refine mw_icmp_ge (pc' := 51) (tgt := 53) dX11_coast_48 rfl (by decide) (fun c10 => ?_) (fun c10 => ?_)
        · replace K := K.1 c10
          refine mw_aload_n (pc' := 54) dX11_coast_53 rfl rfl ?_
          refine mw_getR (pc' := 57) dX11_coast_54 rfl flX11_12 rfl (skT_8 hS) ?_
          rw [skR_8_0 hS]
          refine mw_iload_n (pc' := 58) dX11_coast_57 rfl rfl ?_
          refine mw_callV (pc' := 61) (b' := (0, 0)) (b1 := (b1 + 9, b2 + 5760)) (av := [.inl v1]) (rest := []) dX11_coast_58 rfl lkX11_72 rfl rfl (Nat.le_of_ble_eq_true rfl) ⟨Nat.le_of_eq (Nat.zero_add _), Nat.le_of_eq (Nat.zero_add _)⟩ (skT_9 hS) ?_
          refine mC_mono (fun r h2 hr => ?_) K
          obtain ⟨x3, rfl, hS, K⟩ := hr
          show mW _ _ _ _ _ _ [.inl x3] _ _
          refine mw_istore_n (pc' := 62) dX11_coast_61 rfl (by decide) ?_
          show mW _ _ _ _ _ [some (.inr (some 8)), some (.inl v1), some (.inl w1), some (.inl x3), none, none] _ _ _
          refine mw_iload_n (pc' := 63) dX11_coast_62 rfl rfl ?_
          refine mw_iconst (pc' := 64) (v := (-1)) dX11_coast_63 rfl (by decide) ?_
          refine mw_icmp_ne (pc' := 67) (tgt := 166) dX11_coast_64 rfl (by decide) (fun c9 => ?_) (fun c9 => ?_)
          · replace K := K.1 c9
            refine mw_aload_n (pc' := 167) dX11_coast_166 rfl rfl ?_
            refine mw_getR (pc' := 170) dX11_coast_167 rfl flX11_12 rfl (skT_8 hS) ?_
            rw [skR_8_0 hS]
            refine mw_iconst (pc' := 171) (v := 0) dX11_coast_170 rfl (by decide) ?_
            refine mw_putIK (pc' := 174) dX11_coast_171 rfl flX11_60 rfl (Or.inl rfl) ⟨rfl, rfl⟩ (skT_9 hS) hS (fun h4 eh4 hS => ?_)
            replace K := K h4 eh4
            refine mw_iload_n (pc' := 175) dX11_coast_174 rfl rfl ?_
            refine mw_iconst (pc' := 176) (v := (-1)) dX11_coast_175 rfl (by decide) ?_
            refine mw_icmp_ne (pc' := 179) (tgt := 191) dX11_coast_176 rfl (by decide) (fun c5 => ?_) (fun c5 => ?_)
            · replace K := K.1 c5
              refine mw_sipush (pc' := 194) (v := (-1000)) dX11_coast_191 rfl (by decide) ?_
              refine mw_iload_n (pc' := 195) dX11_coast_194 rfl rfl ?_
              refine mw_isub (pc' := 196) dX11_coast_195 rfl ?_
              exact mw_iret dX11_coast_196 rfl rfl K
            · replace K := K.2 c5
              refine mw_aload_n (pc' := 180) dX11_coast_179 rfl rfl ?_
              refine mw_getR (pc' := 183) dX11_coast_180 rfl flX11_38 rfl (skT_8 hS) ?_
              rw [skR_8_4 hS]
              refine mw_getI (pc' := 186) dX11_coast_183 rfl flX11_71 rfl (skT_33 hS) ?_
              refine mw_iconst (pc' := 187) (v := 1) dX11_coast_186 rfl (by decide) ?_
              refine mw_isub (pc' := 188) dX11_coast_187 rfl ?_
              refine mw_goto (tgt := 196) dX11_coast_188 (by decide) ?_
              exact mw_iret dX11_coast_196 rfl rfl K
          · replace K := K.2 c9
            have hSo := hS
            refine mw_newK (pc' := 70) (b1 := b1 + 8) (b2 := b2 + 5748) (ci := 1) (N := 12) dX11_coast_67 rfl rfl nwX11_76 (by decide) rfl hS (fun h6 eh6 hS => ?_)
            replace K := K h6 eh6
            have tn7 : mT h6 (mN h2) = 2 := by rw [eh6]; exact mAl_T
            refine mw_dup (pc' := 71) dX11_coast_70 rfl ?_
            refine mw_aload_n (pc' := 72) dX11_coast_71 rfl rfl ?_
            refine mw_getR (pc' := 75) dX11_coast_72 rfl flX11_38 rfl (skTA_8 hS) ?_
            rw [skRA_8_4 hS]
            refine mw_getI (pc' := 78) dX11_coast_75 rfl flX11_71 rfl (skTA_33 hS) ?_
            refine mw_iload_n (pc' := 79) dX11_coast_78 rfl rfl ?_
            refine mw_callI (pc' := 82) (b' := (8, 5748)) (b1 := (b1, b2)) (av := [.inl (mI h6 33 1), .inl v1]) (rest := [.inr (some (mN h2))]) dX11_coast_79 rfl lkX11_78 rfl rfl (Nat.le_of_ble_eq_true rfl) ⟨by dsimp only; omega, by dsimp only; omega⟩ ?_
            refine mC_mono (fun r h8 hr => ?_) K
            obtain ⟨rfl, hS, tn7, K⟩ := hr
            show mW _ _ _ _ _ _ [.inr (some (mN h2))] _ _
            refine mw_astore (pc' := 84) dX11_coast_82 rfl (by decide) ?_
            show mW _ _ _ _ _ [some (.inr (some 8)), some (.inl v1), some (.inl w1), some (.inl x3), some (.inr (some (mN h2))), none] _ _ _
            refine mw_iconst (pc' := 85) (v := 0) dX11_coast_84 rfl (by decide) ?_
            refine mw_istore (pc' := 87) dX11_coast_85 rfl (by decide) ?_
            show mW _ _ _ _ _ [some (.inr (some 8)), some (.inl v1), some (.inl w1), some (.inl x3), some (.inr (some (mN h2))), some (.inl 0)] _ _ _
            refine mw_weak (ls' := [some (.inr (some 8)), some (.inl v1), none, some (.inl x3), some (.inr (some (mN h2))), some (.inl 0)]) ?_ ?_
            · intro i v hv; match i, hv with
              | 0, hv => exact hv
              | 1, hv => exact hv
              | 2, hv => cases hv
              | 3, hv => exact hv
              | 4, hv => exact hv
              | 5, hv => exact hv
              | n + 6, hv => cases hv
            exact K
        · replace K := K.2 c10
          refine mw_iconst (pc' := 52) (v := (-1)) dX11_coast_51 rfl (by decide) ?_
          exact mw_iret dX11_coast_52 rfl rfl K
  refine mw_if_eq (pc' := 10) (tgt := 20) dX11_coast_7 rfl (by decide) (fun c14 => ?_) (fun c14 => ?_)
  · refine mw_iconst (pc' := 21) (v := 0) dX11_coast_20 rfl (by decide) ?_
    exact J13 _ (by rw [if_pos c14])
  · refine mw_iload_n (pc' := 11) dX11_coast_10 rfl rfl ?_
    refine mw_iconst (pc' := 12) (v := 1) dX11_coast_11 rfl (by decide) ?_
    refine mw_iand (pc' := 13) dX11_coast_12 rfl ?_
    refine mw_if_ne (pc' := 16) (tgt := 20) dX11_coast_13 rfl (by decide) (fun c15 => ?_) (fun c15 => ?_)
    · refine mw_iconst (pc' := 21) (v := 0) dX11_coast_20 rfl (by decide) ?_
      exact J13 _ (by rw [if_neg c14, if_pos c15])
    · refine mw_iconst (pc' := 17) (v := 1) dX11_coast_16 rfl (by decide) ?_
      refine mw_goto (tgt := 21) dX11_coast_17 (by decide) ?_
      exact J13 _ (by rw [if_neg c14, if_neg (fun z => z c15)])

set_option maxRecDepth 100000 in
set_option maxHeartbeats 4000000 in
theorem qX11_coast_87 {G : mG} {d : Nat} {b : Nat × Nat} {h : mH} {Q : Option mV → mH → Prop} (v1 : Int32) (v3 : Int32) (a4 : Nat) (v5 : Int32) (ta4 : mT h a4 = 2) (hS : mSk h)
    (K : ((v1 ≤ v5 → mC G kX11_addCoast (d + 3) (0, 0) [.inr (some 8), .inr (some a4)] h (fun r h1 => r = none ∧ mSk h1 ∧ mT h1 a4 = 2 ∧ ∀ h2, h2 = mSI h1 9 1 0 → ((¬ v3 = (-1) → Q (some (.inl ((-1000) - v3))) h2) ∧ (v3 = (-1) → Q (some (.inl ((mI h2 33 1) - 1))) h2)))) ∧ (¬ (v1 ≤ v5) → mC G kX9_at (d + 3) (0, 0) [.inr (some 9), .inl (2 * v5)] h (fun r h4 => ∃ x5, r = some (.inl x5) ∧ mSk h4 ∧ mT h4 a4 = 2 ∧ vp_in v5 16 ∧ ∀ h7, h7 = mSI h4 (a4 + 6) v5.toNatClampNeg x5 → mC G kX9_at (d + 3) (0, 0) [.inr (some 9), .inl ((2 * v5) + 1)] h7 (fun r h8 => ∃ x9, r = some (.inl x9) ∧ mSk h8 ∧ mT h8 a4 = 2 ∧ vp_in v5 16 ∧ ∀ h11, h11 = mSI h8 (a4 + 7) v5.toNatClampNeg x9 → mC G kX9_at (d + 3) (0, 0) [.inr (some 9), .inl ((2 * v1) + v5)] h11 (fun r h12 => ∃ x13, r = some (.inl x13) ∧ mSk h12 ∧ mT h12 a4 = 2 ∧ vp_in v5 16 ∧ ∀ h15, h15 = mSI h12 (a4 + 8) v5.toNatClampNeg x13 → mW G kX11_coast (d + 4) b 87 [some (.inr (some 8)), some (.inl v1), none, some (.inl v3), some (.inr (some a4)), some (.inl (v5 + 1))] [] h15 Q)))))) : mW G kX11_coast (d + 4) b 87 [some (.inr (some 8)), some (.inl v1), none, some (.inl v3), some (.inr (some a4)), some (.inl v5)] [] h Q := by
  refine mw_iload (pc' := 89) dX11_coast_87 rfl rfl ?_
  refine mw_iload_n (pc' := 90) dX11_coast_89 rfl rfl ?_
  refine mw_icmp_ge (pc' := 93) (tgt := 160) dX11_coast_90 rfl (by decide) (fun c16 => ?_) (fun c16 => ?_)
  · replace K := K.1 c16
    refine mw_aload_n (pc' := 161) dX11_coast_160 rfl rfl ?_
    refine mw_aload (pc' := 163) dX11_coast_161 rfl rfl ?_
    refine mw_callV (pc' := 166) (b' := (0, 0)) (b1 := b) (av := [.inr (some a4)]) (rest := []) dX11_coast_163 rfl lkX11_94 rfl rfl (Nat.le_of_ble_eq_true rfl) ⟨Nat.le_of_eq (Nat.zero_add _), Nat.le_of_eq (Nat.zero_add _)⟩ (skT_8 hS) ?_
    refine mC_mono (fun r h1 hr => ?_) K
    obtain ⟨rfl, hS, ta4, K⟩ := hr
    show mW _ _ _ _ _ _ [] _ _
    refine mw_aload_n (pc' := 167) dX11_coast_166 rfl rfl ?_
    refine mw_getR (pc' := 170) dX11_coast_167 rfl flX11_12 rfl (skT_8 hS) ?_
    rw [skR_8_0 hS]
    refine mw_iconst (pc' := 171) (v := 0) dX11_coast_170 rfl (by decide) ?_
    refine mw_putIK (pc' := 174) dX11_coast_171 rfl flX11_60 rfl (Or.inl rfl) ⟨rfl, rfl⟩ (skT_9 hS) hS (fun h2 eh2 hS => ?_)
    replace K := K h2 eh2
    have ta4 : mT h2 a4 = 2 := by rw [eh2]; exact ta4
    refine mw_iload_n (pc' := 175) dX11_coast_174 rfl rfl ?_
    refine mw_iconst (pc' := 176) (v := (-1)) dX11_coast_175 rfl (by decide) ?_
    refine mw_icmp_ne (pc' := 179) (tgt := 191) dX11_coast_176 rfl (by decide) (fun c3 => ?_) (fun c3 => ?_)
    · replace K := K.1 c3
      refine mw_sipush (pc' := 194) (v := (-1000)) dX11_coast_191 rfl (by decide) ?_
      refine mw_iload_n (pc' := 195) dX11_coast_194 rfl rfl ?_
      refine mw_isub (pc' := 196) dX11_coast_195 rfl ?_
      exact mw_iret dX11_coast_196 rfl rfl K
    · replace K := K.2 c3
      refine mw_aload_n (pc' := 180) dX11_coast_179 rfl rfl ?_
      refine mw_getR (pc' := 183) dX11_coast_180 rfl flX11_38 rfl (skT_8 hS) ?_
      rw [skR_8_4 hS]
      refine mw_getI (pc' := 186) dX11_coast_183 rfl flX11_71 rfl (skT_33 hS) ?_
      refine mw_iconst (pc' := 187) (v := 1) dX11_coast_186 rfl (by decide) ?_
      refine mw_isub (pc' := 188) dX11_coast_187 rfl ?_
      refine mw_goto (tgt := 196) dX11_coast_188 (by decide) ?_
      exact mw_iret dX11_coast_196 rfl rfl K
  · replace K := K.2 c16
    refine mw_aload (pc' := 95) dX11_coast_93 rfl rfl ?_
    refine mw_getR (pc' := 98) dX11_coast_95 rfl flX11_81 rfl (ta4) ?_
    rw [skBR_1_2 hS ta4]
    refine mw_iload (pc' := 100) dX11_coast_98 rfl rfl ?_
    refine mw_aload_n (pc' := 101) dX11_coast_100 rfl rfl ?_
    refine mw_getR (pc' := 104) dX11_coast_101 rfl flX11_12 rfl (skT_8 hS) ?_
    rw [skR_8_0 hS]
    refine mw_iconst (pc' := 105) (v := 2) dX11_coast_104 rfl (by decide) ?_
    refine mw_iload (pc' := 107) dX11_coast_105 rfl rfl ?_
    refine mw_imul (pc' := 108) dX11_coast_107 rfl ?_
    refine mw_callV (pc' := 111) (b' := (0, 0)) (b1 := b) (av := [.inl (2 * v5)]) (rest := [.inl v5, .inr (some (a4 + 6))]) dX11_coast_108 rfl lkX11_85 rfl rfl (Nat.le_of_ble_eq_true rfl) ⟨Nat.le_of_eq (Nat.zero_add _), Nat.le_of_eq (Nat.zero_add _)⟩ (skT_9 hS) ?_
    refine mC_mono (fun r h4 hr => ?_) K
    obtain ⟨x5, rfl, hS, ta4, K⟩ := hr
    show mW _ _ _ _ _ _ [.inl x5, .inl v5, .inr (some (a4 + 6))] _ _
    obtain ⟨o6, K⟩ := K
    refine mw_iastK (pc' := 112) dX11_coast_111 rfl (skBT_1_6 hS ta4) (skBL_1_6 hS ta4) o6 hS (fun h7 eh7 hS => ?_)
    replace K := K h7 eh7
    have ta4 : mT h7 a4 = 2 := by rw [eh7]; exact ta4
    refine mw_aload (pc' := 114) dX11_coast_112 rfl rfl ?_
    refine mw_getR (pc' := 117) dX11_coast_114 rfl flX11_88 rfl (ta4) ?_
    rw [skBR_1_3 hS ta4]
    refine mw_iload (pc' := 119) dX11_coast_117 rfl rfl ?_
    refine mw_aload_n (pc' := 120) dX11_coast_119 rfl rfl ?_
    refine mw_getR (pc' := 123) dX11_coast_120 rfl flX11_12 rfl (skT_8 hS) ?_
    rw [skR_8_0 hS]
    refine mw_iconst (pc' := 124) (v := 2) dX11_coast_123 rfl (by decide) ?_
    refine mw_iload (pc' := 126) dX11_coast_124 rfl rfl ?_
    refine mw_imul (pc' := 127) dX11_coast_126 rfl ?_
    refine mw_iconst (pc' := 128) (v := 1) dX11_coast_127 rfl (by decide) ?_
    refine mw_iadd (pc' := 129) dX11_coast_128 rfl ?_
    refine mw_callV (pc' := 132) (b' := (0, 0)) (b1 := b) (av := [.inl ((2 * v5) + 1)]) (rest := [.inl v5, .inr (some (a4 + 7))]) dX11_coast_129 rfl lkX11_85 rfl rfl (Nat.le_of_ble_eq_true rfl) ⟨Nat.le_of_eq (Nat.zero_add _), Nat.le_of_eq (Nat.zero_add _)⟩ (skT_9 hS) ?_
    refine mC_mono (fun r h8 hr => ?_) K
    obtain ⟨x9, rfl, hS, ta4, K⟩ := hr
    show mW _ _ _ _ _ _ [.inl x9, .inl v5, .inr (some (a4 + 7))] _ _
    obtain ⟨o10, K⟩ := K
    refine mw_iastK (pc' := 133) dX11_coast_132 rfl (skBT_1_7 hS ta4) (skBL_1_7 hS ta4) o10 hS (fun h11 eh11 hS => ?_)
    replace K := K h11 eh11
    have ta4 : mT h11 a4 = 2 := by rw [eh11]; exact ta4
    refine mw_aload (pc' := 135) dX11_coast_133 rfl rfl ?_
    refine mw_getR (pc' := 138) dX11_coast_135 rfl flX11_91 rfl (ta4) ?_
    rw [skBR_1_4 hS ta4]
    refine mw_iload (pc' := 140) dX11_coast_138 rfl rfl ?_
    refine mw_aload_n (pc' := 141) dX11_coast_140 rfl rfl ?_
    refine mw_getR (pc' := 144) dX11_coast_141 rfl flX11_12 rfl (skT_8 hS) ?_
    rw [skR_8_0 hS]
    refine mw_iconst (pc' := 145) (v := 2) dX11_coast_144 rfl (by decide) ?_
    refine mw_iload_n (pc' := 146) dX11_coast_145 rfl rfl ?_
    refine mw_imul (pc' := 147) dX11_coast_146 rfl ?_
    refine mw_iload (pc' := 149) dX11_coast_147 rfl rfl ?_
    refine mw_iadd (pc' := 150) dX11_coast_149 rfl ?_
    refine mw_callV (pc' := 153) (b' := (0, 0)) (b1 := b) (av := [.inl ((2 * v1) + v5)]) (rest := [.inl v5, .inr (some (a4 + 8))]) dX11_coast_150 rfl lkX11_85 rfl rfl (Nat.le_of_ble_eq_true rfl) ⟨Nat.le_of_eq (Nat.zero_add _), Nat.le_of_eq (Nat.zero_add _)⟩ (skT_9 hS) ?_
    refine mC_mono (fun r h12 hr => ?_) K
    obtain ⟨x13, rfl, hS, ta4, K⟩ := hr
    show mW _ _ _ _ _ _ [.inl x13, .inl v5, .inr (some (a4 + 8))] _ _
    obtain ⟨o14, K⟩ := K
    refine mw_iastK (pc' := 154) dX11_coast_153 rfl (skBT_1_8 hS ta4) (skBL_1_8 hS ta4) o14 hS (fun h15 eh15 hS => ?_)
    replace K := K h15 eh15
    have ta4 : mT h15 a4 = 2 := by rw [eh15]; exact ta4
    refine mw_iinc (pc' := 157) (v := v5 + 1) dX11_coast_154 rfl (by decide) rfl rfl ?_
    show mW _ _ _ _ _ [some (.inr (some 8)), some (.inl v1), none, some (.inl v3), some (.inr (some a4)), some (.inl (v5 + 1))] _ _ _
    refine mw_goto (tgt := 87) dX11_coast_157 (by decide) ?_
    exact K

set_option maxRecDepth 100000 in
set_option maxHeartbeats 4000000 in
theorem qX11_law {G : mG} {d : Nat} {b : Nat × Nat} {h : mH} {Q : Option mV → mH → Prop} (v1 : Int32) (hS : mSk h)
    (K : (((f_X11_within v1 1 160) = 0 → Q (some (.inl (-1))) h) ∧ (¬ (f_X11_within v1 1 160) = 0 → ((v1 ≤ (mI h 9 1) → mC G kX4_read (d + 7) (0, 0) [.inr (some 27), .inr (some 9), .inl v1, .inr (mR h 11 6)] h (fun r h1 => ∃ x2, r = some (.inl x2) ∧ mSk h1 ∧ ∀ h3, h3 = mSI h1 9 1 0 → ((x2 < 0 → Q (some (.inl x2)) h3) ∧ (¬ (x2 < 0) → mC G kX2_takeSpare (d + 7) (0, 0) [.inr (some 11)] h3 (fun r h4 => r = none ∧ mSk h4 ∧ mC G kX6_forgetHeard (d + 7) (0, 0) [.inr (some 28)] h4 (fun r h5 => r = none ∧ mSk h5 ∧ mC G kX0_restart (d + 7) (0, 0) [.inr (some 33)] h5 (fun r h6 => r = none ∧ mSk h6 ∧ ∀ h7, h7 = mSI h6 8 7 ((mI h6 8 7) + 1) → Q (some (.inl x2)) h7))))))) ∧ (¬ (v1 ≤ (mI h 9 1)) → Q (some (.inl (-1))) h))))) : mC G kX11_law (d + 8) b [.inr (some 8), .inl v1] h Q := by
  refine mC_in rfl (Nat.le_of_ble_eq_true rfl) ?_
  show mW _ _ _ _ _ [some (.inr (some 8)), some (.inl v1), none] _ _ _
  refine mw_iload_n (pc' := 1) dX11_law_0 rfl rfl ?_
  refine mw_iconst (pc' := 2) (v := 1) dX11_law_1 rfl (by decide) ?_
  refine mw_sipush (pc' := 5) (v := 160) dX11_law_2 rfl (by decide) ?_
  refine mw_callS (pc' := 8) (b' := (0, 0)) (b1 := b) (av := [.inl v1, .inl 1, .inl 160]) (rest := []) dX11_law_5 rfl lkX11_67 rfl rfl (Nat.le_of_ble_eq_true rfl) ⟨Nat.le_of_eq (Nat.zero_add _), Nat.le_of_eq (Nat.zero_add _)⟩ ?_
  refine pX11_within ?_
  refine mw_if_eq (pc' := 11) (tgt := 22) dX11_law_8 rfl (by decide) (fun c10 => ?_) (fun c10 => ?_)
  · replace K := K.1 c10
    refine mw_iconst (pc' := 23) (v := (-1)) dX11_law_22 rfl (by decide) ?_
    exact mw_iret dX11_law_23 rfl rfl K
  · replace K := K.2 c10
    refine mw_aload_n (pc' := 12) dX11_law_11 rfl rfl ?_
    refine mw_getR (pc' := 15) dX11_law_12 rfl flX11_12 rfl (skT_8 hS) ?_
    rw [skR_8_0 hS]
    refine mw_getI (pc' := 18) dX11_law_15 rfl flX11_60 rfl (skT_9 hS) ?_
    refine mw_iload_n (pc' := 19) dX11_law_18 rfl rfl ?_
    refine mw_icmp_ge (pc' := 22) (tgt := 24) dX11_law_19 rfl (by decide) (fun c9 => ?_) (fun c9 => ?_)
    · replace K := K.1 c9
      refine mw_aload_n (pc' := 25) dX11_law_24 rfl rfl ?_
      refine mw_getR (pc' := 28) dX11_law_25 rfl flX11_19 rfl (skT_8 hS) ?_
      rw [skR_8_1 hS]
      refine mw_aload_n (pc' := 29) dX11_law_28 rfl rfl ?_
      refine mw_getR (pc' := 32) dX11_law_29 rfl flX11_12 rfl (skT_8 hS) ?_
      rw [skR_8_0 hS]
      refine mw_iload_n (pc' := 33) dX11_law_32 rfl rfl ?_
      refine mw_aload_n (pc' := 34) dX11_law_33 rfl rfl ?_
      refine mw_getR (pc' := 37) dX11_law_34 rfl flX11_34 rfl (skT_8 hS) ?_
      rw [skR_8_3 hS]
      refine mw_getR (pc' := 40) dX11_law_37 rfl flX11_98 rfl (skT_11 hS) ?_
      refine mw_callV (pc' := 43) (b' := (0, 0)) (b1 := b) (av := [.inr (some 9), .inl v1, .inr (mR h 11 6)]) (rest := []) dX11_law_40 rfl lkX11_104 rfl rfl (Nat.le_of_ble_eq_true rfl) ⟨Nat.le_of_eq (Nat.zero_add _), Nat.le_of_eq (Nat.zero_add _)⟩ (skT_27 hS) ?_
      refine mC_mono (fun r h1 hr => ?_) K
      obtain ⟨x2, rfl, hS, K⟩ := hr
      show mW _ _ _ _ _ _ [.inl x2] _ _
      refine mw_istore_n (pc' := 44) dX11_law_43 rfl (by decide) ?_
      show mW _ _ _ _ _ [some (.inr (some 8)), some (.inl v1), some (.inl x2)] _ _ _
      refine mw_aload_n (pc' := 45) dX11_law_44 rfl rfl ?_
      refine mw_getR (pc' := 48) dX11_law_45 rfl flX11_12 rfl (skT_8 hS) ?_
      rw [skR_8_0 hS]
      refine mw_iconst (pc' := 49) (v := 0) dX11_law_48 rfl (by decide) ?_
      refine mw_putIK (pc' := 52) dX11_law_49 rfl flX11_60 rfl (Or.inl rfl) ⟨rfl, rfl⟩ (skT_9 hS) hS (fun h3 eh3 hS => ?_)
      replace K := K h3 eh3
      refine mw_iload_n (pc' := 53) dX11_law_52 rfl rfl ?_
      refine mw_if_lt (pc' := 56) (tgt := 87) dX11_law_53 rfl (by decide) (fun c8 => ?_) (fun c8 => ?_)
      · replace K := K.1 c8
        refine mw_iload_n (pc' := 88) dX11_law_87 rfl rfl ?_
        exact mw_iret dX11_law_88 rfl rfl K
      · replace K := K.2 c8
        refine mw_aload_n (pc' := 57) dX11_law_56 rfl rfl ?_
        refine mw_getR (pc' := 60) dX11_law_57 rfl flX11_34 rfl (skT_8 hS) ?_
        rw [skR_8_3 hS]
        refine mw_callV (pc' := 63) (b' := (0, 0)) (b1 := b) (av := []) (rest := []) dX11_law_60 rfl lkX11_108 rfl rfl (Nat.le_of_ble_eq_true rfl) ⟨Nat.le_of_eq (Nat.zero_add _), Nat.le_of_eq (Nat.zero_add _)⟩ (skT_11 hS) ?_
        refine mC_mono (fun r h4 hr => ?_) K
        obtain ⟨rfl, hS, K⟩ := hr
        show mW _ _ _ _ _ _ [] _ _
        refine mw_aload_n (pc' := 64) dX11_law_63 rfl rfl ?_
        refine mw_getR (pc' := 67) dX11_law_64 rfl flX11_26 rfl (skT_8 hS) ?_
        rw [skR_8_2 hS]
        refine mw_callV (pc' := 70) (b' := (0, 0)) (b1 := b) (av := []) (rest := []) dX11_law_67 rfl lkX11_111 rfl rfl (Nat.le_of_ble_eq_true rfl) ⟨Nat.le_of_eq (Nat.zero_add _), Nat.le_of_eq (Nat.zero_add _)⟩ (skT_28 hS) ?_
        refine mC_mono (fun r h5 hr => ?_) K
        obtain ⟨rfl, hS, K⟩ := hr
        show mW _ _ _ _ _ _ [] _ _
        refine mw_aload_n (pc' := 71) dX11_law_70 rfl rfl ?_
        refine mw_getR (pc' := 74) dX11_law_71 rfl flX11_38 rfl (skT_8 hS) ?_
        rw [skR_8_4 hS]
        refine mw_callV (pc' := 77) (b' := (0, 0)) (b1 := b) (av := []) (rest := []) dX11_law_74 rfl lkX11_114 rfl rfl (Nat.le_of_ble_eq_true rfl) ⟨Nat.le_of_eq (Nat.zero_add _), Nat.le_of_eq (Nat.zero_add _)⟩ (skT_33 hS) ?_
        refine mC_mono (fun r h6 hr => ?_) K
        obtain ⟨rfl, hS, K⟩ := hr
        show mW _ _ _ _ _ _ [] _ _
        refine mw_aload_n (pc' := 78) dX11_law_77 rfl rfl ?_
        refine mw_dup (pc' := 79) dX11_law_78 rfl ?_
        refine mw_getI (pc' := 82) dX11_law_79 rfl flX11_56 rfl (skT_8 hS) ?_
        refine mw_iconst (pc' := 83) (v := 1) dX11_law_82 rfl (by decide) ?_
        refine mw_iadd (pc' := 84) dX11_law_83 rfl ?_
        refine mw_putIK (pc' := 87) dX11_law_84 rfl flX11_56 rfl (Or.inl rfl) ⟨rfl, rfl⟩ (skT_8 hS) hS (fun h7 eh7 hS => ?_)
        replace K := K h7 eh7
        refine mw_iload_n (pc' := 88) dX11_law_87 rfl rfl ?_
        exact mw_iret dX11_law_88 rfl rfl K
    · replace K := K.2 c9
      refine mw_iconst (pc' := 23) (v := (-1)) dX11_law_22 rfl (by decide) ?_
      exact mw_iret dX11_law_23 rfl rfl K

set_option maxRecDepth 100000 in
set_option maxHeartbeats 4000000 in
theorem qX11_push {G : mG} {d : Nat} {b1 b2 : Nat} {h : mH} {Q : Option mV → mH → Prop} (v1 : Int32) (v2 : Int32) (v3 : Int32) (hS : mSk h)
    (K : mC G kX0_get (d + 3) (0, 0) [.inr (some 33), .inl v1] h (fun r h1 => ∃ z2, r = some (.inr z2) ∧ mSk h1 ∧ ((z2 = none → Q (some (.inl (-1))) h1) ∧ (∀ y3, z2 = some y3 → mT h1 y3 = 2 ∧ ((¬ (f_X11_within v2 0 ((mI h1 y3 1) - 1)) = 0 → ((v3 = 0 → Q (some (.inl (-1))) h1) ∧ (¬ v3 = 0 → (((f_X11_within v3 (-9) 9) = 0 → Q (some (.inl (-1))) h1) ∧ (¬ (f_X11_within v3 (-9) 9) = 0 → (((mI h1 33 1) < 8 → mC G kX1_canMoveSide (d + 3) (0, 0) [.inr (some y3), .inl v2, .inl v3] h1 (fun r h4 => ∃ x5, r = some (.inl x5) ∧ mSk h4 ∧ mT h4 y3 = 2 ∧ ((¬ x5 = 0 → ∀ h6, h6 = mAl h4 2 0 → mC G kX1_init (d + 3) (8, 5748) [.inr (some (mN h4)), .inl (mI h6 33 1), .inl (mI h6 y3 1)] h6 (fun r h8 => r = none ∧ mSk h8 ∧ mT h8 y3 = 2 ∧ mT h8 (mN h4) = 2 ∧ mC G kX1_copyMoved (d + 3) (0, 0) [.inr (some (mN h4)), .inr (some y3), .inl v2, .inl v3] h8 (fun r h9 => r = none ∧ mSk h9 ∧ mT h9 y3 = 2 ∧ mT h9 (mN h4) = 2 ∧ mC G kX11_addCoast (d + 3) (0, 0) [.inr (some 8), .inr (some (mN h4))] h9 (fun r h10 => r = none ∧ mSk h10 ∧ mT h10 y3 = 2 ∧ mT h10 (mN h4) = 2 ∧ Q (some (.inl ((mI h10 33 1) - 1))) h10)))) ∧ (x5 = 0 → Q (some (.inl (-2))) h4)))) ∧ (¬ ((mI h1 33 1) < 8) → Q (some (.inl (-1))) h1))))))) ∧ ((f_X11_within v2 0 ((mI h1 y3 1) - 1)) = 0 → Q (some (.inl (-1))) h1)))))) : mC G kX11_push (d + 4) (b1 + 9, b2 + 5760) [.inr (some 8), .inl v1, .inl v2, .inl v3] h Q := by
  refine mC_in rfl (Nat.le_of_ble_eq_true rfl) ?_
  show mW _ _ _ _ _ [some (.inr (some 8)), some (.inl v1), some (.inl v2), some (.inl v3), none, none] _ _ _
  refine mw_aload_n (pc' := 1) dX11_push_0 rfl rfl ?_
  refine mw_getR (pc' := 4) dX11_push_1 rfl flX11_38 rfl (skT_8 hS) ?_
  rw [skR_8_4 hS]
  refine mw_iload_n (pc' := 5) dX11_push_4 rfl rfl ?_
  refine mw_callV (pc' := 8) (b' := (0, 0)) (b1 := (b1 + 9, b2 + 5760)) (av := [.inl v1]) (rest := []) dX11_push_5 rfl lkX11_117 rfl rfl (Nat.le_of_ble_eq_true rfl) ⟨Nat.le_of_eq (Nat.zero_add _), Nat.le_of_eq (Nat.zero_add _)⟩ (skT_33 hS) ?_
  refine mC_mono (fun r h1 hr => ?_) K
  obtain ⟨z2, rfl, hS, K⟩ := hr
  show mW _ _ _ _ _ _ [.inr z2] _ _
  refine mw_astore (pc' := 10) dX11_push_8 rfl (by decide) ?_
  show mW _ _ _ _ _ [some (.inr (some 8)), some (.inl v1), some (.inl v2), some (.inl v3), some (.inr z2), none] _ _ _
  refine mw_aload (pc' := 12) dX11_push_10 rfl rfl ?_
  refine mw_ifnull (pc' := 15) (tgt := 30) dX11_push_12 rfl (by decide) (fun c16 => ?_) (fun y3 c16 => ?_)
  · replace K := K.1 c16
    try rw [c16]
    refine mw_iconst (pc' := 31) (v := (-1)) dX11_push_30 rfl (by decide) ?_
    exact mw_iret dX11_push_31 rfl rfl K
  · obtain ⟨ty3, K⟩ := K.2 y3 c16
    try rw [c16]
    refine mw_iload_n (pc' := 16) dX11_push_15 rfl rfl ?_
    refine mw_iconst (pc' := 17) (v := 0) dX11_push_16 rfl (by decide) ?_
    refine mw_aload (pc' := 19) dX11_push_17 rfl rfl ?_
    refine mw_getI (pc' := 22) dX11_push_19 rfl flX11_121 rfl (ty3) ?_
    refine mw_iconst (pc' := 23) (v := 1) dX11_push_22 rfl (by decide) ?_
    refine mw_isub (pc' := 24) dX11_push_23 rfl ?_
    refine mw_callS (pc' := 27) (b' := (0, 0)) (b1 := (b1 + 9, b2 + 5760)) (av := [.inl v2, .inl 0, .inl ((mI h1 y3 1) - 1)]) (rest := []) dX11_push_24 rfl lkX11_67 rfl rfl (Nat.le_of_ble_eq_true rfl) ⟨Nat.le_of_eq (Nat.zero_add _), Nat.le_of_eq (Nat.zero_add _)⟩ ?_
    refine pX11_within ?_
    refine mw_if_ne (pc' := 30) (tgt := 32) dX11_push_27 rfl (by decide) (fun c15 => ?_) (fun c15 => ?_)
    · replace K := K.1 c15
      refine mw_iload_n (pc' := 33) dX11_push_32 rfl rfl ?_
      refine mw_if_eq (pc' := 36) (tgt := 59) dX11_push_33 rfl (by decide) (fun c14 => ?_) (fun c14 => ?_)
      · replace K := K.1 c14
        refine mw_iconst (pc' := 60) (v := (-1)) dX11_push_59 rfl (by decide) ?_
        exact mw_iret dX11_push_60 rfl rfl K
      · replace K := K.2 c14
        refine mw_iload_n (pc' := 37) dX11_push_36 rfl rfl ?_
        refine mw_bipush (pc' := 39) (v := (-9)) dX11_push_37 rfl (by decide) ?_
        refine mw_bipush (pc' := 41) (v := 9) dX11_push_39 rfl (by decide) ?_
        refine mw_callS (pc' := 44) (b' := (0, 0)) (b1 := (b1 + 9, b2 + 5760)) (av := [.inl v3, .inl (-9), .inl 9]) (rest := []) dX11_push_41 rfl lkX11_67 rfl rfl (Nat.le_of_ble_eq_true rfl) ⟨Nat.le_of_eq (Nat.zero_add _), Nat.le_of_eq (Nat.zero_add _)⟩ ?_
        refine pX11_within ?_
        refine mw_if_eq (pc' := 47) (tgt := 59) dX11_push_44 rfl (by decide) (fun c13 => ?_) (fun c13 => ?_)
        · replace K := K.1 c13
          refine mw_iconst (pc' := 60) (v := (-1)) dX11_push_59 rfl (by decide) ?_
          exact mw_iret dX11_push_60 rfl rfl K
        · replace K := K.2 c13
          refine mw_aload_n (pc' := 48) dX11_push_47 rfl rfl ?_
          refine mw_getR (pc' := 51) dX11_push_48 rfl flX11_38 rfl (skT_8 hS) ?_
          rw [skR_8_4 hS]
          refine mw_getI (pc' := 54) dX11_push_51 rfl flX11_71 rfl (skT_33 hS) ?_
          refine mw_bipush (pc' := 56) (v := 8) dX11_push_54 rfl (by decide) ?_
          refine mw_icmp_lt (pc' := 59) (tgt := 61) dX11_push_56 rfl (by decide) (fun c12 => ?_) (fun c12 => ?_)
          · replace K := K.1 c12
            refine mw_aload (pc' := 63) dX11_push_61 rfl rfl ?_
            refine mw_iload_n (pc' := 64) dX11_push_63 rfl rfl ?_
            refine mw_iload_n (pc' := 65) dX11_push_64 rfl rfl ?_
            refine mw_callV (pc' := 68) (b' := (0, 0)) (b1 := (b1 + 9, b2 + 5760)) (av := [.inl v2, .inl v3]) (rest := []) dX11_push_65 rfl lkX11_124 rfl rfl (Nat.le_of_ble_eq_true rfl) ⟨Nat.le_of_eq (Nat.zero_add _), Nat.le_of_eq (Nat.zero_add _)⟩ (ty3) ?_
            refine mC_mono (fun r h4 hr => ?_) K
            obtain ⟨x5, rfl, hS, ty3, K⟩ := hr
            show mW _ _ _ _ _ _ [.inl x5] _ _
            refine mw_if_ne (pc' := 71) (tgt := 74) dX11_push_68 rfl (by decide) (fun c11 => ?_) (fun c11 => ?_)
            · replace K := K.1 c11
              have hSo := hS
              refine mw_newK (pc' := 77) (b1 := b1 + 8) (b2 := b2 + 5748) (ci := 1) (N := 12) dX11_push_74 rfl rfl nwX11_76 (by decide) rfl hS (fun h6 eh6 hS => ?_)
              replace K := K h6 eh6
              have ty3 : mT h6 y3 = 2 := mT_Al_old hSo eh6 ty3 (by decide)
              have tn7 : mT h6 (mN h4) = 2 := by rw [eh6]; exact mAl_T
              refine mw_dup (pc' := 78) dX11_push_77 rfl ?_
              refine mw_aload_n (pc' := 79) dX11_push_78 rfl rfl ?_
              refine mw_getR (pc' := 82) dX11_push_79 rfl flX11_38 rfl (skTA_8 hS) ?_
              rw [skRA_8_4 hS]
              refine mw_getI (pc' := 85) dX11_push_82 rfl flX11_71 rfl (skTA_33 hS) ?_
              refine mw_aload (pc' := 87) dX11_push_85 rfl rfl ?_
              refine mw_getI (pc' := 90) dX11_push_87 rfl flX11_121 rfl (ty3) ?_
              refine mw_callI (pc' := 93) (b' := (8, 5748)) (b1 := (b1, b2)) (av := [.inl (mI h6 33 1), .inl (mI h6 y3 1)]) (rest := [.inr (some (mN h4))]) dX11_push_90 rfl lkX11_78 rfl rfl (Nat.le_of_ble_eq_true rfl) ⟨by dsimp only; omega, by dsimp only; omega⟩ ?_
              refine mC_mono (fun r h8 hr => ?_) K
              obtain ⟨rfl, hS, ty3, tn7, K⟩ := hr
              show mW _ _ _ _ _ _ [.inr (some (mN h4))] _ _
              refine mw_astore (pc' := 95) dX11_push_93 rfl (by decide) ?_
              show mW _ _ _ _ _ [some (.inr (some 8)), some (.inl v1), some (.inl v2), some (.inl v3), some (.inr (some y3)), some (.inr (some (mN h4)))] _ _ _
              refine mw_aload (pc' := 97) dX11_push_95 rfl rfl ?_
              refine mw_aload (pc' := 99) dX11_push_97 rfl rfl ?_
              refine mw_iload_n (pc' := 100) dX11_push_99 rfl rfl ?_
              refine mw_iload_n (pc' := 101) dX11_push_100 rfl rfl ?_
              refine mw_callV (pc' := 104) (b' := (0, 0)) (b1 := (b1, b2)) (av := [.inr (some y3), .inl v2, .inl v3]) (rest := []) dX11_push_101 rfl lkX11_128 rfl rfl (Nat.le_of_ble_eq_true rfl) ⟨Nat.le_of_eq (Nat.zero_add _), Nat.le_of_eq (Nat.zero_add _)⟩ (tn7) ?_
              refine mC_mono (fun r h9 hr => ?_) K
              obtain ⟨rfl, hS, ty3, tn7, K⟩ := hr
              show mW _ _ _ _ _ _ [] _ _
              refine mw_aload_n (pc' := 105) dX11_push_104 rfl rfl ?_
              refine mw_aload (pc' := 107) dX11_push_105 rfl rfl ?_
              refine mw_callV (pc' := 110) (b' := (0, 0)) (b1 := (b1, b2)) (av := [.inr (some (mN h4))]) (rest := []) dX11_push_107 rfl lkX11_94 rfl rfl (Nat.le_of_ble_eq_true rfl) ⟨Nat.le_of_eq (Nat.zero_add _), Nat.le_of_eq (Nat.zero_add _)⟩ (skT_8 hS) ?_
              refine mC_mono (fun r h10 hr => ?_) K
              obtain ⟨rfl, hS, ty3, tn7, K⟩ := hr
              show mW _ _ _ _ _ _ [] _ _
              refine mw_aload_n (pc' := 111) dX11_push_110 rfl rfl ?_
              refine mw_getR (pc' := 114) dX11_push_111 rfl flX11_38 rfl (skT_8 hS) ?_
              rw [skR_8_4 hS]
              refine mw_getI (pc' := 117) dX11_push_114 rfl flX11_71 rfl (skT_33 hS) ?_
              refine mw_iconst (pc' := 118) (v := 1) dX11_push_117 rfl (by decide) ?_
              refine mw_isub (pc' := 119) dX11_push_118 rfl ?_
              exact mw_iret dX11_push_119 rfl rfl K
            · replace K := K.2 c11
              refine mw_bipush (pc' := 73) (v := (-2)) dX11_push_71 rfl (by decide) ?_
              exact mw_iret dX11_push_73 rfl rfl K
          · replace K := K.2 c12
            refine mw_iconst (pc' := 60) (v := (-1)) dX11_push_59 rfl (by decide) ?_
            exact mw_iret dX11_push_60 rfl rfl K
    · replace K := K.2 c15
      refine mw_iconst (pc' := 31) (v := (-1)) dX11_push_30 rfl (by decide) ?_
      exact mw_iret dX11_push_31 rfl rfl K

set_option maxRecDepth 100000 in
set_option maxHeartbeats 4000000 in
theorem qX11_land {G : mG} {d : Nat} {b : Nat × Nat} {h : mH} {Q : Option mV → mH → Prop} (v1 : Int32) (v2 : Int32) (v3 : Int32) (hS : mSk h)
    (K : mC G kX0_get d (0, 0) [.inr (some 33), .inl v1] h (fun r h1 => ∃ z2, r = some (.inr z2) ∧ mSk h1 ∧ ((z2 = none → Q (some (.inl (-1))) h1) ∧ (∀ y3, z2 = some y3 → mT h1 y3 = 2 ∧ ((¬ (f_X11_inGrid v2 v3) = 0 → mC G kX1_isLand d (0, 0) [.inr (some y3), .inl v2, .inl v3] h1 (fun r h4 => ∃ x5, r = some (.inl x5) ∧ mSk h4 ∧ mT h4 y3 = 2 ∧ ∀ w6 : Int32, w6 = (if x5 = 0 then 0 else 1) → Q (some (.inl w6)) h4)) ∧ ((f_X11_inGrid v2 v3) = 0 → Q (some (.inl (-1))) h1)))))) : mC G kX11_land (d + 1) b [.inr (some 8), .inl v1, .inl v2, .inl v3] h Q := by
  refine mC_in rfl (Nat.le_of_ble_eq_true rfl) ?_
  show mW _ _ _ _ _ [some (.inr (some 8)), some (.inl v1), some (.inl v2), some (.inl v3), none] _ _ _
  refine mw_aload_n (pc' := 1) dX11_land_0 rfl rfl ?_
  refine mw_getR (pc' := 4) dX11_land_1 rfl flX11_38 rfl (skT_8 hS) ?_
  rw [skR_8_4 hS]
  refine mw_iload_n (pc' := 5) dX11_land_4 rfl rfl ?_
  refine mw_callV (pc' := 8) (b' := (0, 0)) (b1 := b) (av := [.inl v1]) (rest := []) dX11_land_5 rfl lkX11_117 rfl rfl (Nat.le_of_ble_eq_true rfl) ⟨Nat.le_of_eq (Nat.zero_add _), Nat.le_of_eq (Nat.zero_add _)⟩ (skT_33 hS) ?_
  refine mC_mono (fun r h1 hr => ?_) K
  obtain ⟨z2, rfl, hS, K⟩ := hr
  show mW _ _ _ _ _ _ [.inr z2] _ _
  refine mw_astore (pc' := 10) dX11_land_8 rfl (by decide) ?_
  show mW _ _ _ _ _ [some (.inr (some 8)), some (.inl v1), some (.inl v2), some (.inl v3), some (.inr z2)] _ _ _
  refine mw_aload (pc' := 12) dX11_land_10 rfl rfl ?_
  refine mw_ifnull (pc' := 15) (tgt := 23) dX11_land_12 rfl (by decide) (fun c10 => ?_) (fun y3 c10 => ?_)
  · replace K := K.1 c10
    try rw [c10]
    refine mw_iconst (pc' := 24) (v := (-1)) dX11_land_23 rfl (by decide) ?_
    exact mw_iret dX11_land_24 rfl rfl K
  · obtain ⟨ty3, K⟩ := K.2 y3 c10
    try rw [c10]
    refine mw_iload_n (pc' := 16) dX11_land_15 rfl rfl ?_
    refine mw_iload_n (pc' := 17) dX11_land_16 rfl rfl ?_
    refine mw_callS (pc' := 20) (b' := (0, 0)) (b1 := b) (av := [.inl v2, .inl v3]) (rest := []) dX11_land_17 rfl lkX11_132 rfl rfl (Nat.le_of_ble_eq_true rfl) ⟨Nat.le_of_eq (Nat.zero_add _), Nat.le_of_eq (Nat.zero_add _)⟩ ?_
    refine pX11_inGrid ?_
    refine mw_if_ne (pc' := 23) (tgt := 25) dX11_land_20 rfl (by decide) (fun c9 => ?_) (fun c9 => ?_)
    · replace K := K.1 c9
      refine mw_aload (pc' := 27) dX11_land_25 rfl rfl ?_
      refine mw_iload_n (pc' := 28) dX11_land_27 rfl rfl ?_
      refine mw_iload_n (pc' := 29) dX11_land_28 rfl rfl ?_
      refine mw_callV (pc' := 32) (b' := (0, 0)) (b1 := b) (av := [.inl v2, .inl v3]) (rest := []) dX11_land_29 rfl lkX11_135 rfl rfl (Nat.le_of_ble_eq_true rfl) ⟨Nat.le_of_eq (Nat.zero_add _), Nat.le_of_eq (Nat.zero_add _)⟩ (ty3) ?_
      refine mC_mono (fun r h4 hr => ?_) K
      obtain ⟨x5, rfl, hS, ty3, K⟩ := hr
      show mW _ _ _ _ _ _ [.inl x5] _ _
      have J7 : ∀ w6 : Int32, w6 = (if x5 = 0 then 0 else 1) → mW G kX11_land (d + 1) b 40 [some (.inr (some 8)), some (.inl v1), some (.inl v2), some (.inl v3), some (.inr (some y3))] ([.inl w6]) h4 Q := by
        intro w6 ew6
        replace K := K w6 ew6
        exact mw_iret dX11_land_40 rfl rfl K
      refine mw_if_eq (pc' := 35) (tgt := 39) dX11_land_32 rfl (by decide) (fun c8 => ?_) (fun c8 => ?_)
      · refine mw_iconst (pc' := 40) (v := 0) dX11_land_39 rfl (by decide) ?_
        exact J7 _ (by rw [if_pos c8])
      · refine mw_iconst (pc' := 36) (v := 1) dX11_land_35 rfl (by decide) ?_
        refine mw_goto (tgt := 40) dX11_land_36 (by decide) ?_
        exact J7 _ (by rw [if_neg c8])
    · replace K := K.2 c9
      refine mw_iconst (pc' := 24) (v := (-1)) dX11_land_23 rfl (by decide) ?_
      exact mw_iret dX11_land_24 rfl rfl K

set_option maxRecDepth 100000 in
set_option maxHeartbeats 4000000 in
theorem qX11_facing {G : mG} {d : Nat} {b : Nat × Nat} {h : mH} {Q : Option mV → mH → Prop} (v1 : Int32) (v2 : Int32) (v3 : Int32) (v4 : Int32) (v5 : Int32) (hS : mSk h)
    (K : mC G kX0_get (d + 2) (0, 0) [.inr (some 33), .inl v1] h (fun r h1 => ∃ z2, r = some (.inr z2) ∧ mSk h1 ∧ ∀ w3 : Int32, w3 = (if (f_X11_inGrid v2 v3) = 0 then 0 else (if (f_X11_within v4 0 3) = 0 then 0 else (if (f_X11_within v5 0 2) = 0 then 0 else 1))) → ((z2 = none → Q (some (.inl (-1))) h1) ∧ (∀ y4, z2 = some y4 → mT h1 y4 = 2 ∧ ((¬ w3 = 0 → mC G kX1_isLand (d + 2) (0, 0) [.inr (some y4), .inl v2, .inl v3] h1 (fun r h5 => ∃ x6, r = some (.inl x6) ∧ mSk h5 ∧ mT h5 y4 = 2 ∧ ((x6 = 0 → mC G kX1_sweep (d + 2) (0, 0) [.inr (some y4), .inl v4] h5 (fun r h7 => r = none ∧ mSk h7 ∧ mT h7 y4 = 2 ∧ vp_in (((v4 * 1024) + (v3 * 32)) + v2) 4096 ∧ ((¬ v5 = 0 → ((¬ v5 = 1 → Q (some (.inl (2 * (f_X11_echoSteps (mI h7 (y4 + 3) (((v4 * 1024) + (v3 * 32)) + v2).toNatClampNeg))))) h7) ∧ (v5 = 1 → ∀ w9 : Int32, w9 = (if ¬ (mI h7 (y4 + 3) (((v4 * 1024) + (v3 * 32)) + v2).toNatClampNeg) = 0 then ((mI h7 (y4 + 3) (((v4 * 1024) + (v3 * 32)) + v2).toNatClampNeg) &&& 3) else (-2)) → Q (some (.inl w9)) h7))) ∧ (v5 = 0 → Q (some (.inl (m_shr (mI h7 (y4 + 3) (((v4 * 1024) + (v3 * 32)) + v2).toNatClampNeg) 2))) h7)))) ∧ (¬ x6 = 0 → Q (some (.inl (-3))) h5)))) ∧ (w3 = 0 → Q (some (.inl (-1))) h1)))))) : mC G kX11_facing (d + 3) b [.inr (some 8), .inl v1, .inl v2, .inl v3, .inl v4, .inl v5] h Q := by
  refine mC_in rfl (Nat.le_of_ble_eq_true rfl) ?_
  show mW _ _ _ _ _ [some (.inr (some 8)), some (.inl v1), some (.inl v2), some (.inl v3), some (.inl v4), some (.inl v5), none, none, none] _ _ _
  refine mw_aload_n (pc' := 1) dX11_facing_0 rfl rfl ?_
  refine mw_getR (pc' := 4) dX11_facing_1 rfl flX11_38 rfl (skT_8 hS) ?_
  rw [skR_8_4 hS]
  refine mw_iload_n (pc' := 5) dX11_facing_4 rfl rfl ?_
  refine mw_callV (pc' := 8) (b' := (0, 0)) (b1 := b) (av := [.inl v1]) (rest := []) dX11_facing_5 rfl lkX11_117 rfl rfl (Nat.le_of_ble_eq_true rfl) ⟨Nat.le_of_eq (Nat.zero_add _), Nat.le_of_eq (Nat.zero_add _)⟩ (skT_33 hS) ?_
  refine mC_mono (fun r h1 hr => ?_) K
  obtain ⟨z2, rfl, hS, K⟩ := hr
  show mW _ _ _ _ _ _ [.inr z2] _ _
  refine mw_astore (pc' := 10) dX11_facing_8 rfl (by decide) ?_
  show mW _ _ _ _ _ [some (.inr (some 8)), some (.inl v1), some (.inl v2), some (.inl v3), some (.inl v4), some (.inl v5), some (.inr z2), none, none] _ _ _
  refine mw_iload_n (pc' := 11) dX11_facing_10 rfl rfl ?_
  refine mw_iload_n (pc' := 12) dX11_facing_11 rfl rfl ?_
  refine mw_callS (pc' := 15) (b' := (0, 0)) (b1 := b) (av := [.inl v2, .inl v3]) (rest := []) dX11_facing_12 rfl lkX11_132 rfl rfl (Nat.le_of_ble_eq_true rfl) ⟨Nat.le_of_eq (Nat.zero_add _), Nat.le_of_eq (Nat.zero_add _)⟩ ?_
  refine pX11_inGrid ?_
  have J17 : ∀ w3 : Int32, w3 = (if (f_X11_inGrid v2 v3) = 0 then 0 else (if (f_X11_within v4 0 3) = 0 then 0 else (if (f_X11_within v5 0 2) = 0 then 0 else 1))) → mW G kX11_facing (d + 3) b 43 [some (.inr (some 8)), some (.inl v1), some (.inl v2), some (.inl v3), some (.inl v4), some (.inl v5), some (.inr z2), none, none] ([.inl w3]) h1 Q := by
    intro w3 ew3
    replace K := K w3 ew3
    refine mw_istore (pc' := 45) dX11_facing_43 rfl (by decide) ?_
    show mW _ _ _ _ _ [some (.inr (some 8)), some (.inl v1), some (.inl v2), some (.inl v3), some (.inl v4), some (.inl v5), some (.inr z2), some (.inl w3), none] _ _ _
    refine mw_aload (pc' := 47) dX11_facing_45 rfl rfl ?_
    refine mw_ifnull (pc' := 50) (tgt := 55) dX11_facing_47 rfl (by decide) (fun c16 => ?_) (fun y4 c16 => ?_)
    · replace K := K.1 c16
      try rw [c16]
      refine mw_iconst (pc' := 56) (v := (-1)) dX11_facing_55 rfl (by decide) ?_
      exact mw_iret dX11_facing_56 rfl rfl K
    · obtain ⟨ty4, K⟩ := K.2 y4 c16
      try rw [c16]
      refine mw_iload (pc' := 52) dX11_facing_50 rfl rfl ?_
      refine mw_if_ne (pc' := 55) (tgt := 57) dX11_facing_52 rfl (by decide) (fun c15 => ?_) (fun c15 => ?_)
      · replace K := K.1 c15
        refine mw_aload (pc' := 59) dX11_facing_57 rfl rfl ?_
        refine mw_iload_n (pc' := 60) dX11_facing_59 rfl rfl ?_
        refine mw_iload_n (pc' := 61) dX11_facing_60 rfl rfl ?_
        refine mw_callV (pc' := 64) (b' := (0, 0)) (b1 := b) (av := [.inl v2, .inl v3]) (rest := []) dX11_facing_61 rfl lkX11_135 rfl rfl (Nat.le_of_ble_eq_true rfl) ⟨Nat.le_of_eq (Nat.zero_add _), Nat.le_of_eq (Nat.zero_add _)⟩ (ty4) ?_
        refine mC_mono (fun r h5 hr => ?_) K
        obtain ⟨x6, rfl, hS, ty4, K⟩ := hr
        show mW _ _ _ _ _ _ [.inl x6] _ _
        refine mw_if_eq (pc' := 67) (tgt := 70) dX11_facing_64 rfl (by decide) (fun c14 => ?_) (fun c14 => ?_)
        · replace K := K.1 c14
          refine mw_aload (pc' := 72) dX11_facing_70 rfl rfl ?_
          refine mw_iload (pc' := 74) dX11_facing_72 rfl rfl ?_
          refine mw_callV (pc' := 77) (b' := (0, 0)) (b1 := b) (av := [.inl v4]) (rest := []) dX11_facing_74 rfl lkX11_138 rfl rfl (Nat.le_of_ble_eq_true rfl) ⟨Nat.le_of_eq (Nat.zero_add _), Nat.le_of_eq (Nat.zero_add _)⟩ (ty4) ?_
          refine mC_mono (fun r h7 hr => ?_) K
          obtain ⟨rfl, hS, ty4, K⟩ := hr
          show mW _ _ _ _ _ _ [] _ _
          refine mw_aload (pc' := 79) dX11_facing_77 rfl rfl ?_
          refine mw_getR (pc' := 82) dX11_facing_79 rfl flX11_141 rfl (ty4) ?_
          rw [skBR_1_7 hS ty4]
          refine mw_iload (pc' := 84) dX11_facing_82 rfl rfl ?_
          refine mw_sipush (pc' := 87) (v := 1024) dX11_facing_84 rfl (by decide) ?_
          refine mw_imul (pc' := 88) dX11_facing_87 rfl ?_
          refine mw_iload_n (pc' := 89) dX11_facing_88 rfl rfl ?_
          refine mw_bipush (pc' := 91) (v := 32) dX11_facing_89 rfl (by decide) ?_
          refine mw_imul (pc' := 92) dX11_facing_91 rfl ?_
          refine mw_iadd (pc' := 93) dX11_facing_92 rfl ?_
          refine mw_iload_n (pc' := 94) dX11_facing_93 rfl rfl ?_
          refine mw_iadd (pc' := 95) dX11_facing_94 rfl ?_
          obtain ⟨o8, K⟩ := K
          refine mw_ialdL (pc' := 96) dX11_facing_95 rfl (skBT_1_3 hS ty4) (skBL_1_3 hS ty4) o8 ?_
          refine mw_istore (pc' := 98) dX11_facing_96 rfl (by decide) ?_
          show mW _ _ _ _ _ [some (.inr (some 8)), some (.inl v1), some (.inl v2), some (.inl v3), some (.inl v4), some (.inl v5), some (.inr (some y4)), some (.inl w3), some (.inl (mI h7 (y4 + 3) (((v4 * 1024) + (v3 * 32)) + v2).toNatClampNeg))] _ _ _
          refine mw_iload (pc' := 100) dX11_facing_98 rfl rfl ?_
          refine mw_if_ne (pc' := 103) (tgt := 108) dX11_facing_100 rfl (by decide) (fun c13 => ?_) (fun c13 => ?_)
          · replace K := K.1 c13
            refine mw_iload (pc' := 110) dX11_facing_108 rfl rfl ?_
            refine mw_iconst (pc' := 111) (v := 1) dX11_facing_110 rfl (by decide) ?_
            refine mw_icmp_ne (pc' := 114) (tgt := 129) dX11_facing_111 rfl (by decide) (fun c12 => ?_) (fun c12 => ?_)
            · replace K := K.1 c12
              refine mw_iconst (pc' := 130) (v := 2) dX11_facing_129 rfl (by decide) ?_
              refine mw_iload (pc' := 132) dX11_facing_130 rfl rfl ?_
              refine mw_callS (pc' := 135) (b' := (0, 0)) (b1 := b) (av := [.inl (mI h7 (y4 + 3) (((v4 * 1024) + (v3 * 32)) + v2).toNatClampNeg)]) (rest := [.inl 2]) dX11_facing_132 rfl lkX11_144 rfl rfl (Nat.le_of_ble_eq_true rfl) ⟨Nat.le_of_eq (Nat.zero_add _), Nat.le_of_eq (Nat.zero_add _)⟩ ?_
              refine pX11_echoSteps ?_
              refine mw_imul (pc' := 136) dX11_facing_135 rfl ?_
              exact mw_iret dX11_facing_136 rfl rfl K
            · replace K := K.2 c12
              refine mw_iload (pc' := 116) dX11_facing_114 rfl rfl ?_
              have J10 : ∀ w9 : Int32, w9 = (if ¬ (mI h7 (y4 + 3) (((v4 * 1024) + (v3 * 32)) + v2).toNatClampNeg) = 0 then ((mI h7 (y4 + 3) (((v4 * 1024) + (v3 * 32)) + v2).toNatClampNeg) &&& 3) else (-2)) → mW G kX11_facing (d + 3) b 128 [some (.inr (some 8)), some (.inl v1), some (.inl v2), some (.inl v3), some (.inl v4), some (.inl v5), some (.inr (some y4)), some (.inl w3), some (.inl (mI h7 (y4 + 3) (((v4 * 1024) + (v3 * 32)) + v2).toNatClampNeg))] ([.inl w9]) h7 Q := by
                intro w9 ew9
                replace K := K w9 ew9
                exact mw_iret dX11_facing_128 rfl rfl K
              refine mw_if_ne (pc' := 119) (tgt := 124) dX11_facing_116 rfl (by decide) (fun c11 => ?_) (fun c11 => ?_)
              · refine mw_iload (pc' := 126) dX11_facing_124 rfl rfl ?_
                refine mw_iconst (pc' := 127) (v := 3) dX11_facing_126 rfl (by decide) ?_
                refine mw_iand (pc' := 128) dX11_facing_127 rfl ?_
                exact J10 _ (by rw [if_pos c11])
              · refine mw_bipush (pc' := 121) (v := (-2)) dX11_facing_119 rfl (by decide) ?_
                refine mw_goto (tgt := 128) dX11_facing_121 (by decide) ?_
                exact J10 _ (by rw [if_neg (fun z => z c11)])
          · replace K := K.2 c13
            refine mw_iload (pc' := 105) dX11_facing_103 rfl rfl ?_
            refine mw_iconst (pc' := 106) (v := 2) dX11_facing_105 rfl (by decide) ?_
            refine mw_ishrM (pc' := 107) dX11_facing_106 rfl ?_
            exact mw_iret dX11_facing_107 rfl rfl K
        · replace K := K.2 c14
          refine mw_bipush (pc' := 69) (v := (-3)) dX11_facing_67 rfl (by decide) ?_
          exact mw_iret dX11_facing_69 rfl rfl K
      · replace K := K.2 c15
        refine mw_iconst (pc' := 56) (v := (-1)) dX11_facing_55 rfl (by decide) ?_
        exact mw_iret dX11_facing_56 rfl rfl K
  refine mw_if_eq (pc' := 18) (tgt := 42) dX11_facing_15 rfl (by decide) (fun c18 => ?_) (fun c18 => ?_)
  · refine mw_iconst (pc' := 43) (v := 0) dX11_facing_42 rfl (by decide) ?_
    exact J17 _ (by rw [if_pos c18])
  · refine mw_iload (pc' := 20) dX11_facing_18 rfl rfl ?_
    refine mw_iconst (pc' := 21) (v := 0) dX11_facing_20 rfl (by decide) ?_
    refine mw_iconst (pc' := 22) (v := 3) dX11_facing_21 rfl (by decide) ?_
    refine mw_callS (pc' := 25) (b' := (0, 0)) (b1 := b) (av := [.inl v4, .inl 0, .inl 3]) (rest := []) dX11_facing_22 rfl lkX11_67 rfl rfl (Nat.le_of_ble_eq_true rfl) ⟨Nat.le_of_eq (Nat.zero_add _), Nat.le_of_eq (Nat.zero_add _)⟩ ?_
    refine pX11_within ?_
    refine mw_if_eq (pc' := 28) (tgt := 42) dX11_facing_25 rfl (by decide) (fun c19 => ?_) (fun c19 => ?_)
    · refine mw_iconst (pc' := 43) (v := 0) dX11_facing_42 rfl (by decide) ?_
      exact J17 _ (by rw [if_neg c18, if_pos c19])
    · refine mw_iload (pc' := 30) dX11_facing_28 rfl rfl ?_
      refine mw_iconst (pc' := 31) (v := 0) dX11_facing_30 rfl (by decide) ?_
      refine mw_iconst (pc' := 32) (v := 2) dX11_facing_31 rfl (by decide) ?_
      refine mw_callS (pc' := 35) (b' := (0, 0)) (b1 := b) (av := [.inl v5, .inl 0, .inl 2]) (rest := []) dX11_facing_32 rfl lkX11_67 rfl rfl (Nat.le_of_ble_eq_true rfl) ⟨Nat.le_of_eq (Nat.zero_add _), Nat.le_of_eq (Nat.zero_add _)⟩ ?_
      refine pX11_within ?_
      refine mw_if_eq (pc' := 38) (tgt := 42) dX11_facing_35 rfl (by decide) (fun c20 => ?_) (fun c20 => ?_)
      · refine mw_iconst (pc' := 43) (v := 0) dX11_facing_42 rfl (by decide) ?_
        exact J17 _ (by rw [if_neg c18, if_neg c19, if_pos c20])
      · refine mw_iconst (pc' := 39) (v := 1) dX11_facing_38 rfl (by decide) ?_
        refine mw_goto (tgt := 43) dX11_facing_39 (by decide) ?_
        exact J17 _ (by rw [if_neg c18, if_neg c19, if_neg c20])

set_option maxRecDepth 100000 in
set_option maxHeartbeats 4000000 in
theorem qX11_sounder {G : mG} {d : Nat} {b : Nat × Nat} {h : mH} {Q : Option mV → mH → Prop} (v1 : Int32) (v2 : Int32) (v3 : Int32) (v4 : Int32) (hS : mSk h)
    (K : ∀ w1 : Int32, w1 = (if (f_X11_inGrid v1 v2) = 0 then 0 else (if (f_X11_within v3 0 3) = 0 then 0 else (if (f_X11_within v4 0 99) = 0 then 0 else 1))) → ((w1 = 0 → Q (some (.inl (-1))) h) ∧ (¬ w1 = 0 → (((mI h 11 4) < 6 → mC G kX2_addSounder d (0, 0) [.inr (some 11), .inl v1, .inl v2, .inl v3, .inl v4] h (fun r h2 => r = none ∧ mSk h2 ∧ Q (some (.inl ((mI h2 11 4) - 1))) h2)) ∧ (¬ ((mI h 11 4) < 6) → Q (some (.inl (-1))) h))))) : mC G kX11_sounder (d + 1) b [.inr (some 8), .inl v1, .inl v2, .inl v3, .inl v4] h Q := by
  refine mC_in rfl (Nat.le_of_ble_eq_true rfl) ?_
  show mW _ _ _ _ _ [some (.inr (some 8)), some (.inl v1), some (.inl v2), some (.inl v3), some (.inl v4), none] _ _ _
  refine mw_iload_n (pc' := 1) dX11_sounder_0 rfl rfl ?_
  refine mw_iload_n (pc' := 2) dX11_sounder_1 rfl rfl ?_
  refine mw_callS (pc' := 5) (b' := (0, 0)) (b1 := b) (av := [.inl v1, .inl v2]) (rest := []) dX11_sounder_2 rfl lkX11_132 rfl rfl (Nat.le_of_ble_eq_true rfl) ⟨Nat.le_of_eq (Nat.zero_add _), Nat.le_of_eq (Nat.zero_add _)⟩ ?_
  refine pX11_inGrid ?_
  have J5 : ∀ w1 : Int32, w1 = (if (f_X11_inGrid v1 v2) = 0 then 0 else (if (f_X11_within v3 0 3) = 0 then 0 else (if (f_X11_within v4 0 99) = 0 then 0 else 1))) → mW G kX11_sounder (d + 1) b 33 [some (.inr (some 8)), some (.inl v1), some (.inl v2), some (.inl v3), some (.inl v4), none] ([.inl w1]) h Q := by
    intro w1 ew1
    replace K := K w1 ew1
    refine mw_istore (pc' := 35) dX11_sounder_33 rfl (by decide) ?_
    show mW _ _ _ _ _ [some (.inr (some 8)), some (.inl v1), some (.inl v2), some (.inl v3), some (.inl v4), some (.inl w1)] _ _ _
    refine mw_iload (pc' := 37) dX11_sounder_35 rfl rfl ?_
    refine mw_if_eq (pc' := 40) (tgt := 52) dX11_sounder_37 rfl (by decide) (fun c4 => ?_) (fun c4 => ?_)
    · replace K := K.1 c4
      refine mw_iconst (pc' := 53) (v := (-1)) dX11_sounder_52 rfl (by decide) ?_
      exact mw_iret dX11_sounder_53 rfl rfl K
    · replace K := K.2 c4
      refine mw_aload_n (pc' := 41) dX11_sounder_40 rfl rfl ?_
      refine mw_getR (pc' := 44) dX11_sounder_41 rfl flX11_34 rfl (skT_8 hS) ?_
      rw [skR_8_3 hS]
      refine mw_getI (pc' := 47) dX11_sounder_44 rfl flX11_147 rfl (skT_11 hS) ?_
      refine mw_bipush (pc' := 49) (v := 6) dX11_sounder_47 rfl (by decide) ?_
      refine mw_icmp_lt (pc' := 52) (tgt := 54) dX11_sounder_49 rfl (by decide) (fun c3 => ?_) (fun c3 => ?_)
      · replace K := K.1 c3
        refine mw_aload_n (pc' := 55) dX11_sounder_54 rfl rfl ?_
        refine mw_getR (pc' := 58) dX11_sounder_55 rfl flX11_34 rfl (skT_8 hS) ?_
        rw [skR_8_3 hS]
        refine mw_iload_n (pc' := 59) dX11_sounder_58 rfl rfl ?_
        refine mw_iload_n (pc' := 60) dX11_sounder_59 rfl rfl ?_
        refine mw_iload_n (pc' := 61) dX11_sounder_60 rfl rfl ?_
        refine mw_iload (pc' := 63) dX11_sounder_61 rfl rfl ?_
        refine mw_callV (pc' := 66) (b' := (0, 0)) (b1 := b) (av := [.inl v1, .inl v2, .inl v3, .inl v4]) (rest := []) dX11_sounder_63 rfl lkX11_148 rfl rfl (Nat.le_of_ble_eq_true rfl) ⟨Nat.le_of_eq (Nat.zero_add _), Nat.le_of_eq (Nat.zero_add _)⟩ (skT_11 hS) ?_
        refine mC_mono (fun r h2 hr => ?_) K
        obtain ⟨rfl, hS, K⟩ := hr
        show mW _ _ _ _ _ _ [] _ _
        refine mw_aload_n (pc' := 67) dX11_sounder_66 rfl rfl ?_
        refine mw_getR (pc' := 70) dX11_sounder_67 rfl flX11_34 rfl (skT_8 hS) ?_
        rw [skR_8_3 hS]
        refine mw_getI (pc' := 73) dX11_sounder_70 rfl flX11_147 rfl (skT_11 hS) ?_
        refine mw_iconst (pc' := 74) (v := 1) dX11_sounder_73 rfl (by decide) ?_
        refine mw_isub (pc' := 75) dX11_sounder_74 rfl ?_
        exact mw_iret dX11_sounder_75 rfl rfl K
      · replace K := K.2 c3
        refine mw_iconst (pc' := 53) (v := (-1)) dX11_sounder_52 rfl (by decide) ?_
        exact mw_iret dX11_sounder_53 rfl rfl K
  refine mw_if_eq (pc' := 8) (tgt := 32) dX11_sounder_5 rfl (by decide) (fun c6 => ?_) (fun c6 => ?_)
  · refine mw_iconst (pc' := 33) (v := 0) dX11_sounder_32 rfl (by decide) ?_
    exact J5 _ (by rw [if_pos c6])
  · refine mw_iload_n (pc' := 9) dX11_sounder_8 rfl rfl ?_
    refine mw_iconst (pc' := 10) (v := 0) dX11_sounder_9 rfl (by decide) ?_
    refine mw_iconst (pc' := 11) (v := 3) dX11_sounder_10 rfl (by decide) ?_
    refine mw_callS (pc' := 14) (b' := (0, 0)) (b1 := b) (av := [.inl v3, .inl 0, .inl 3]) (rest := []) dX11_sounder_11 rfl lkX11_67 rfl rfl (Nat.le_of_ble_eq_true rfl) ⟨Nat.le_of_eq (Nat.zero_add _), Nat.le_of_eq (Nat.zero_add _)⟩ ?_
    refine pX11_within ?_
    refine mw_if_eq (pc' := 17) (tgt := 32) dX11_sounder_14 rfl (by decide) (fun c7 => ?_) (fun c7 => ?_)
    · refine mw_iconst (pc' := 33) (v := 0) dX11_sounder_32 rfl (by decide) ?_
      exact J5 _ (by rw [if_neg c6, if_pos c7])
    · refine mw_iload (pc' := 19) dX11_sounder_17 rfl rfl ?_
      refine mw_iconst (pc' := 20) (v := 0) dX11_sounder_19 rfl (by decide) ?_
      refine mw_bipush (pc' := 22) (v := 99) dX11_sounder_20 rfl (by decide) ?_
      refine mw_callS (pc' := 25) (b' := (0, 0)) (b1 := b) (av := [.inl v4, .inl 0, .inl 99]) (rest := []) dX11_sounder_22 rfl lkX11_67 rfl rfl (Nat.le_of_ble_eq_true rfl) ⟨Nat.le_of_eq (Nat.zero_add _), Nat.le_of_eq (Nat.zero_add _)⟩ ?_
      refine pX11_within ?_
      refine mw_if_eq (pc' := 28) (tgt := 32) dX11_sounder_25 rfl (by decide) (fun c8 => ?_) (fun c8 => ?_)
      · refine mw_iconst (pc' := 33) (v := 0) dX11_sounder_32 rfl (by decide) ?_
        exact J5 _ (by rw [if_neg c6, if_neg c7, if_pos c8])
      · refine mw_iconst (pc' := 29) (v := 1) dX11_sounder_28 rfl (by decide) ?_
        refine mw_goto (tgt := 33) dX11_sounder_29 (by decide) ?_
        exact J5 _ (by rw [if_neg c6, if_neg c7, if_neg c8])

set_option maxRecDepth 100000 in
set_option maxHeartbeats 4000000 in
theorem qX11_level {G : mG} {d : Nat} {b : Nat × Nat} {h : mH} {Q : Option mV → mH → Prop} (v1 : Int32) (v2 : Int32) (v3 : Int32) (v4 : Int32) (v5 : Int32) (v6 : Int32) (hS : mSk h)
    (K : mC G kX0_get (d + 2) (0, 0) [.inr (some 33), .inl v1] h (fun r h1 => ∃ z2, r = some (.inr z2) ∧ mSk h1 ∧ ∀ w3 : Int32, w3 = (if (f_X11_inGrid v3 v4) = 0 then 0 else (if (f_X11_within v5 0 23) = 0 then 0 else (if (f_X11_within v6 0 3) = 0 then 0 else 1))) → ((z2 = none → Q (some (.inl (-1))) h1) ∧ (∀ y4, z2 = some y4 → mT h1 y4 = 2 ∧ mC G kX2_hasSounder (d + 2) (0, 0) [.inr (some 11), .inl v2] h1 (fun r h5 => ∃ x6, r = some (.inl x6) ∧ mSk h5 ∧ mT h5 y4 = 2 ∧ ((x6 = 0 → Q (some (.inl (-1))) h5) ∧ (¬ x6 = 0 → ((¬ w3 = 0 → mC G kX2_listen (d + 2) (0, 0) [.inr (some 11), .inl v2, .inl v5, .inl v6] h5 (fun r h7 => r = none ∧ mSk h7 ∧ mT h7 y4 = 2 ∧ mC G kX2_loudnessAt (d + 2) (0, 0) [.inr (some 11), .inr (some y4), .inl v3, .inl v4] h7 (fun r h8 => ∃ x9, r = some (.inl x9) ∧ mSk h8 ∧ mT h8 y4 = 2 ∧ Q (some (.inl x9)) h8))) ∧ (w3 = 0 → Q (some (.inl (-1))) h5))))))))) : mC G kX11_level (d + 3) b [.inr (some 8), .inl v1, .inl v2, .inl v3, .inl v4, .inl v5, .inl v6] h Q := by
  refine mC_in rfl (Nat.le_of_ble_eq_true rfl) ?_
  show mW _ _ _ _ _ [some (.inr (some 8)), some (.inl v1), some (.inl v2), some (.inl v3), some (.inl v4), some (.inl v5), some (.inl v6), none, none] _ _ _
  refine mw_aload_n (pc' := 1) dX11_level_0 rfl rfl ?_
  refine mw_getR (pc' := 4) dX11_level_1 rfl flX11_38 rfl (skT_8 hS) ?_
  rw [skR_8_4 hS]
  refine mw_iload_n (pc' := 5) dX11_level_4 rfl rfl ?_
  refine mw_callV (pc' := 8) (b' := (0, 0)) (b1 := b) (av := [.inl v1]) (rest := []) dX11_level_5 rfl lkX11_117 rfl rfl (Nat.le_of_ble_eq_true rfl) ⟨Nat.le_of_eq (Nat.zero_add _), Nat.le_of_eq (Nat.zero_add _)⟩ (skT_33 hS) ?_
  refine mC_mono (fun r h1 hr => ?_) K
  obtain ⟨z2, rfl, hS, K⟩ := hr
  show mW _ _ _ _ _ _ [.inr z2] _ _
  refine mw_astore (pc' := 10) dX11_level_8 rfl (by decide) ?_
  show mW _ _ _ _ _ [some (.inr (some 8)), some (.inl v1), some (.inl v2), some (.inl v3), some (.inl v4), some (.inl v5), some (.inl v6), some (.inr z2), none] _ _ _
  refine mw_iload_n (pc' := 11) dX11_level_10 rfl rfl ?_
  refine mw_iload (pc' := 13) dX11_level_11 rfl rfl ?_
  refine mw_callS (pc' := 16) (b' := (0, 0)) (b1 := b) (av := [.inl v3, .inl v4]) (rest := []) dX11_level_13 rfl lkX11_132 rfl rfl (Nat.le_of_ble_eq_true rfl) ⟨Nat.le_of_eq (Nat.zero_add _), Nat.le_of_eq (Nat.zero_add _)⟩ ?_
  refine pX11_inGrid ?_
  have J13 : ∀ w3 : Int32, w3 = (if (f_X11_inGrid v3 v4) = 0 then 0 else (if (f_X11_within v5 0 23) = 0 then 0 else (if (f_X11_within v6 0 3) = 0 then 0 else 1))) → mW G kX11_level (d + 3) b 45 [some (.inr (some 8)), some (.inl v1), some (.inl v2), some (.inl v3), some (.inl v4), some (.inl v5), some (.inl v6), some (.inr z2), none] ([.inl w3]) h1 Q := by
    intro w3 ew3
    replace K := K w3 ew3
    refine mw_istore (pc' := 47) dX11_level_45 rfl (by decide) ?_
    show mW _ _ _ _ _ [some (.inr (some 8)), some (.inl v1), some (.inl v2), some (.inl v3), some (.inl v4), some (.inl v5), some (.inl v6), some (.inr z2), some (.inl w3)] _ _ _
    refine mw_aload (pc' := 49) dX11_level_47 rfl rfl ?_
    refine mw_ifnull (pc' := 52) (tgt := 68) dX11_level_49 rfl (by decide) (fun c12 => ?_) (fun y4 c12 => ?_)
    · replace K := K.1 c12
      try rw [c12]
      refine mw_iconst (pc' := 69) (v := (-1)) dX11_level_68 rfl (by decide) ?_
      exact mw_iret dX11_level_69 rfl rfl K
    · obtain ⟨ty4, K⟩ := K.2 y4 c12
      try rw [c12]
      refine mw_aload_n (pc' := 53) dX11_level_52 rfl rfl ?_
      refine mw_getR (pc' := 56) dX11_level_53 rfl flX11_34 rfl (skT_8 hS) ?_
      rw [skR_8_3 hS]
      refine mw_iload_n (pc' := 57) dX11_level_56 rfl rfl ?_
      refine mw_callV (pc' := 60) (b' := (0, 0)) (b1 := b) (av := [.inl v2]) (rest := []) dX11_level_57 rfl lkX11_152 rfl rfl (Nat.le_of_ble_eq_true rfl) ⟨Nat.le_of_eq (Nat.zero_add _), Nat.le_of_eq (Nat.zero_add _)⟩ (skT_11 hS) ?_
      refine mC_mono (fun r h5 hr => ?_) K
      obtain ⟨x6, rfl, hS, ty4, K⟩ := hr
      show mW _ _ _ _ _ _ [.inl x6] _ _
      refine mw_if_eq (pc' := 63) (tgt := 68) dX11_level_60 rfl (by decide) (fun c11 => ?_) (fun c11 => ?_)
      · replace K := K.1 c11
        refine mw_iconst (pc' := 69) (v := (-1)) dX11_level_68 rfl (by decide) ?_
        exact mw_iret dX11_level_69 rfl rfl K
      · replace K := K.2 c11
        refine mw_iload (pc' := 65) dX11_level_63 rfl rfl ?_
        refine mw_if_ne (pc' := 68) (tgt := 70) dX11_level_65 rfl (by decide) (fun c10 => ?_) (fun c10 => ?_)
        · replace K := K.1 c10
          refine mw_aload_n (pc' := 71) dX11_level_70 rfl rfl ?_
          refine mw_getR (pc' := 74) dX11_level_71 rfl flX11_34 rfl (skT_8 hS) ?_
          rw [skR_8_3 hS]
          refine mw_iload_n (pc' := 75) dX11_level_74 rfl rfl ?_
          refine mw_iload (pc' := 77) dX11_level_75 rfl rfl ?_
          refine mw_iload (pc' := 79) dX11_level_77 rfl rfl ?_
          refine mw_callV (pc' := 82) (b' := (0, 0)) (b1 := b) (av := [.inl v2, .inl v5, .inl v6]) (rest := []) dX11_level_79 rfl lkX11_156 rfl rfl (Nat.le_of_ble_eq_true rfl) ⟨Nat.le_of_eq (Nat.zero_add _), Nat.le_of_eq (Nat.zero_add _)⟩ (skT_11 hS) ?_
          refine mC_mono (fun r h7 hr => ?_) K
          obtain ⟨rfl, hS, ty4, K⟩ := hr
          show mW _ _ _ _ _ _ [] _ _
          refine mw_aload_n (pc' := 83) dX11_level_82 rfl rfl ?_
          refine mw_getR (pc' := 86) dX11_level_83 rfl flX11_34 rfl (skT_8 hS) ?_
          rw [skR_8_3 hS]
          refine mw_aload (pc' := 88) dX11_level_86 rfl rfl ?_
          refine mw_iload_n (pc' := 89) dX11_level_88 rfl rfl ?_
          refine mw_iload (pc' := 91) dX11_level_89 rfl rfl ?_
          refine mw_callV (pc' := 94) (b' := (0, 0)) (b1 := b) (av := [.inr (some y4), .inl v3, .inl v4]) (rest := []) dX11_level_91 rfl lkX11_160 rfl rfl (Nat.le_of_ble_eq_true rfl) ⟨Nat.le_of_eq (Nat.zero_add _), Nat.le_of_eq (Nat.zero_add _)⟩ (skT_11 hS) ?_
          refine mC_mono (fun r h8 hr => ?_) K
          obtain ⟨x9, rfl, hS, ty4, K⟩ := hr
          show mW _ _ _ _ _ _ [.inl x9] _ _
          exact mw_iret dX11_level_94 rfl rfl K
        · replace K := K.2 c10
          refine mw_iconst (pc' := 69) (v := (-1)) dX11_level_68 rfl (by decide) ?_
          exact mw_iret dX11_level_69 rfl rfl K
  refine mw_if_eq (pc' := 19) (tgt := 44) dX11_level_16 rfl (by decide) (fun c14 => ?_) (fun c14 => ?_)
  · refine mw_iconst (pc' := 45) (v := 0) dX11_level_44 rfl (by decide) ?_
    exact J13 _ (by rw [if_pos c14])
  · refine mw_iload (pc' := 21) dX11_level_19 rfl rfl ?_
    refine mw_iconst (pc' := 22) (v := 0) dX11_level_21 rfl (by decide) ?_
    refine mw_bipush (pc' := 24) (v := 23) dX11_level_22 rfl (by decide) ?_
    refine mw_callS (pc' := 27) (b' := (0, 0)) (b1 := b) (av := [.inl v5, .inl 0, .inl 23]) (rest := []) dX11_level_24 rfl lkX11_67 rfl rfl (Nat.le_of_ble_eq_true rfl) ⟨Nat.le_of_eq (Nat.zero_add _), Nat.le_of_eq (Nat.zero_add _)⟩ ?_
    refine pX11_within ?_
    refine mw_if_eq (pc' := 30) (tgt := 44) dX11_level_27 rfl (by decide) (fun c15 => ?_) (fun c15 => ?_)
    · refine mw_iconst (pc' := 45) (v := 0) dX11_level_44 rfl (by decide) ?_
      exact J13 _ (by rw [if_neg c14, if_pos c15])
    · refine mw_iload (pc' := 32) dX11_level_30 rfl rfl ?_
      refine mw_iconst (pc' := 33) (v := 0) dX11_level_32 rfl (by decide) ?_
      refine mw_iconst (pc' := 34) (v := 3) dX11_level_33 rfl (by decide) ?_
      refine mw_callS (pc' := 37) (b' := (0, 0)) (b1 := b) (av := [.inl v6, .inl 0, .inl 3]) (rest := []) dX11_level_34 rfl lkX11_67 rfl rfl (Nat.le_of_ble_eq_true rfl) ⟨Nat.le_of_eq (Nat.zero_add _), Nat.le_of_eq (Nat.zero_add _)⟩ ?_
      refine pX11_within ?_
      refine mw_if_eq (pc' := 40) (tgt := 44) dX11_level_37 rfl (by decide) (fun c16 => ?_) (fun c16 => ?_)
      · refine mw_iconst (pc' := 45) (v := 0) dX11_level_44 rfl (by decide) ?_
        exact J13 _ (by rw [if_neg c14, if_neg c15, if_pos c16])
      · refine mw_iconst (pc' := 41) (v := 1) dX11_level_40 rfl (by decide) ?_
        refine mw_goto (tgt := 45) dX11_level_41 (by decide) ?_
        exact J13 _ (by rw [if_neg c14, if_neg c15, if_neg c16])

set_option maxRecDepth 100000 in
set_option maxHeartbeats 4000000 in
theorem qX11_line {G : mG} {d : Nat} {b1 b2 : Nat} {h : mH} {Q : Option mV → mH → Prop} (v1 : Int32) (v2 : Int32) (v3 : Int32) (v4 : Int32) (v5 : Int32) (hS : mSk h)
    (K : ∀ w1 : Int32, w1 = (if (f_X11_within v1 (-9) 9) = 0 then 0 else (if (f_X11_within v2 (-9) 9) = 0 then 0 else 1)) → ∀ w2 : Int32, w2 = (if w1 = 0 then 0 else (if (f_X11_within v3 0 3) = 0 then 0 else (if (f_X11_within v4 0 23) = 0 then 0 else (if (f_X11_within v5 0 3) = 0 then 0 else 1)))) → ((w2 = 0 → Q (some (.inl (-1))) h) ∧ (¬ w2 = 0 → (((mI h 28 1) < 12 → mC G kX6_add (d + 2) (2, 13) [.inr (some 28), .inl v1, .inl v2, .inl v3, .inl v4, .inl v5] h (fun r h3 => r = none ∧ mSk h3 ∧ ∀ h4, h4 = mSI h3 8 7 ((mI h3 8 7) + 1) → Q (some (.inl ((mI h4 28 1) - 1))) h4)) ∧ (¬ ((mI h 28 1) < 12) → Q (some (.inl (-1))) h))))) : mC G kX11_line (d + 3) (b1 + 2, b2 + 13) [.inr (some 8), .inl v1, .inl v2, .inl v3, .inl v4, .inl v5] h Q := by
  refine mC_in rfl (Nat.le_of_ble_eq_true rfl) ?_
  show mW _ _ _ _ _ [some (.inr (some 8)), some (.inl v1), some (.inl v2), some (.inl v3), some (.inl v4), some (.inl v5), none] _ _ _
  refine mw_iload_n (pc' := 1) dX11_line_0 rfl rfl ?_
  refine mw_bipush (pc' := 3) (v := (-9)) dX11_line_1 rfl (by decide) ?_
  refine mw_bipush (pc' := 5) (v := 9) dX11_line_3 rfl (by decide) ?_
  refine mw_callS (pc' := 8) (b' := (0, 0)) (b1 := (b1 + 2, b2 + 13)) (av := [.inl v1, .inl (-9), .inl 9]) (rest := []) dX11_line_5 rfl lkX11_67 rfl rfl (Nat.le_of_ble_eq_true rfl) ⟨Nat.le_of_eq (Nat.zero_add _), Nat.le_of_eq (Nat.zero_add _)⟩ ?_
  refine pX11_within ?_
  have J12 : ∀ w1 : Int32, w1 = (if (f_X11_within v1 (-9) 9) = 0 then 0 else (if (f_X11_within v2 (-9) 9) = 0 then 0 else 1)) → mW G kX11_line (d + 3) (b1 + 2, b2 + 13) 27 [some (.inr (some 8)), some (.inl v1), some (.inl v2), some (.inl v3), some (.inl v4), some (.inl v5), none] ([.inl w1]) h Q := by
    intro w1 ew1
    replace K := K w1 ew1
    refine mw_istore (pc' := 29) dX11_line_27 rfl (by decide) ?_
    show mW _ _ _ _ _ [some (.inr (some 8)), some (.inl v1), some (.inl v2), some (.inl v3), some (.inl v4), some (.inl v5), some (.inl w1)] _ _ _
    refine mw_iload (pc' := 31) dX11_line_29 rfl rfl ?_
    have J7 : ∀ w2 : Int32, w2 = (if w1 = 0 then 0 else (if (f_X11_within v3 0 3) = 0 then 0 else (if (f_X11_within v4 0 23) = 0 then 0 else (if (f_X11_within v5 0 3) = 0 then 0 else 1)))) → mW G kX11_line (d + 3) (b1 + 2, b2 + 13) 69 [some (.inr (some 8)), some (.inl v1), some (.inl v2), some (.inl v3), some (.inl v4), some (.inl v5), some (.inl w1)] ([.inl w2]) h Q := by
      intro w2 ew2
      replace K := K w2 ew2
      refine mw_istore (pc' := 71) dX11_line_69 rfl (by decide) ?_
      show mW _ _ _ _ _ [some (.inr (some 8)), some (.inl v1), some (.inl v2), some (.inl v3), some (.inl v4), some (.inl v5), some (.inl w2)] _ _ _
      refine mw_iload (pc' := 73) dX11_line_71 rfl rfl ?_
      refine mw_if_eq (pc' := 76) (tgt := 88) dX11_line_73 rfl (by decide) (fun c6 => ?_) (fun c6 => ?_)
      · replace K := K.1 c6
        refine mw_iconst (pc' := 89) (v := (-1)) dX11_line_88 rfl (by decide) ?_
        exact mw_iret dX11_line_89 rfl rfl K
      · replace K := K.2 c6
        refine mw_aload_n (pc' := 77) dX11_line_76 rfl rfl ?_
        refine mw_getR (pc' := 80) dX11_line_77 rfl flX11_26 rfl (skT_8 hS) ?_
        rw [skR_8_2 hS]
        refine mw_getI (pc' := 83) dX11_line_80 rfl flX11_164 rfl (skT_28 hS) ?_
        refine mw_bipush (pc' := 85) (v := 12) dX11_line_83 rfl (by decide) ?_
        refine mw_icmp_lt (pc' := 88) (tgt := 90) dX11_line_85 rfl (by decide) (fun c5 => ?_) (fun c5 => ?_)
        · replace K := K.1 c5
          refine mw_aload_n (pc' := 91) dX11_line_90 rfl rfl ?_
          refine mw_getR (pc' := 94) dX11_line_91 rfl flX11_26 rfl (skT_8 hS) ?_
          rw [skR_8_2 hS]
          refine mw_iload_n (pc' := 95) dX11_line_94 rfl rfl ?_
          refine mw_iload_n (pc' := 96) dX11_line_95 rfl rfl ?_
          refine mw_iload_n (pc' := 97) dX11_line_96 rfl rfl ?_
          refine mw_iload (pc' := 99) dX11_line_97 rfl rfl ?_
          refine mw_iload (pc' := 101) dX11_line_99 rfl rfl ?_
          refine mw_callV (pc' := 104) (b' := (2, 13)) (b1 := (b1, b2)) (av := [.inl v1, .inl v2, .inl v3, .inl v4, .inl v5]) (rest := []) dX11_line_101 rfl lkX11_165 rfl rfl (Nat.le_of_ble_eq_true rfl) ⟨by dsimp only; omega, by dsimp only; omega⟩ (skT_28 hS) ?_
          refine mC_mono (fun r h3 hr => ?_) K
          obtain ⟨rfl, hS, K⟩ := hr
          show mW _ _ _ _ _ _ [] _ _
          refine mw_aload_n (pc' := 105) dX11_line_104 rfl rfl ?_
          refine mw_dup (pc' := 106) dX11_line_105 rfl ?_
          refine mw_getI (pc' := 109) dX11_line_106 rfl flX11_56 rfl (skT_8 hS) ?_
          refine mw_iconst (pc' := 110) (v := 1) dX11_line_109 rfl (by decide) ?_
          refine mw_iadd (pc' := 111) dX11_line_110 rfl ?_
          refine mw_putIK (pc' := 114) dX11_line_111 rfl flX11_56 rfl (Or.inl rfl) ⟨rfl, rfl⟩ (skT_8 hS) hS (fun h4 eh4 hS => ?_)
          replace K := K h4 eh4
          refine mw_aload_n (pc' := 115) dX11_line_114 rfl rfl ?_
          refine mw_getR (pc' := 118) dX11_line_115 rfl flX11_26 rfl (skT_8 hS) ?_
          rw [skR_8_2 hS]
          refine mw_getI (pc' := 121) dX11_line_118 rfl flX11_164 rfl (skT_28 hS) ?_
          refine mw_iconst (pc' := 122) (v := 1) dX11_line_121 rfl (by decide) ?_
          refine mw_isub (pc' := 123) dX11_line_122 rfl ?_
          exact mw_iret dX11_line_123 rfl rfl K
        · replace K := K.2 c5
          refine mw_iconst (pc' := 89) (v := (-1)) dX11_line_88 rfl (by decide) ?_
          exact mw_iret dX11_line_89 rfl rfl K
    refine mw_if_eq (pc' := 34) (tgt := 68) dX11_line_31 rfl (by decide) (fun c8 => ?_) (fun c8 => ?_)
    · refine mw_iconst (pc' := 69) (v := 0) dX11_line_68 rfl (by decide) ?_
      exact J7 _ (by rw [if_pos c8])
    · refine mw_iload_n (pc' := 35) dX11_line_34 rfl rfl ?_
      refine mw_iconst (pc' := 36) (v := 0) dX11_line_35 rfl (by decide) ?_
      refine mw_iconst (pc' := 37) (v := 3) dX11_line_36 rfl (by decide) ?_
      refine mw_callS (pc' := 40) (b' := (0, 0)) (b1 := (b1 + 2, b2 + 13)) (av := [.inl v3, .inl 0, .inl 3]) (rest := []) dX11_line_37 rfl lkX11_67 rfl rfl (Nat.le_of_ble_eq_true rfl) ⟨Nat.le_of_eq (Nat.zero_add _), Nat.le_of_eq (Nat.zero_add _)⟩ ?_
      refine pX11_within ?_
      refine mw_if_eq (pc' := 43) (tgt := 68) dX11_line_40 rfl (by decide) (fun c9 => ?_) (fun c9 => ?_)
      · refine mw_iconst (pc' := 69) (v := 0) dX11_line_68 rfl (by decide) ?_
        exact J7 _ (by rw [if_neg c8, if_pos c9])
      · refine mw_iload (pc' := 45) dX11_line_43 rfl rfl ?_
        refine mw_iconst (pc' := 46) (v := 0) dX11_line_45 rfl (by decide) ?_
        refine mw_bipush (pc' := 48) (v := 23) dX11_line_46 rfl (by decide) ?_
        refine mw_callS (pc' := 51) (b' := (0, 0)) (b1 := (b1 + 2, b2 + 13)) (av := [.inl v4, .inl 0, .inl 23]) (rest := []) dX11_line_48 rfl lkX11_67 rfl rfl (Nat.le_of_ble_eq_true rfl) ⟨Nat.le_of_eq (Nat.zero_add _), Nat.le_of_eq (Nat.zero_add _)⟩ ?_
        refine pX11_within ?_
        refine mw_if_eq (pc' := 54) (tgt := 68) dX11_line_51 rfl (by decide) (fun c10 => ?_) (fun c10 => ?_)
        · refine mw_iconst (pc' := 69) (v := 0) dX11_line_68 rfl (by decide) ?_
          exact J7 _ (by rw [if_neg c8, if_neg c9, if_pos c10])
        · refine mw_iload (pc' := 56) dX11_line_54 rfl rfl ?_
          refine mw_iconst (pc' := 57) (v := 0) dX11_line_56 rfl (by decide) ?_
          refine mw_iconst (pc' := 58) (v := 3) dX11_line_57 rfl (by decide) ?_
          refine mw_callS (pc' := 61) (b' := (0, 0)) (b1 := (b1 + 2, b2 + 13)) (av := [.inl v5, .inl 0, .inl 3]) (rest := []) dX11_line_58 rfl lkX11_67 rfl rfl (Nat.le_of_ble_eq_true rfl) ⟨Nat.le_of_eq (Nat.zero_add _), Nat.le_of_eq (Nat.zero_add _)⟩ ?_
          refine pX11_within ?_
          refine mw_if_eq (pc' := 64) (tgt := 68) dX11_line_61 rfl (by decide) (fun c11 => ?_) (fun c11 => ?_)
          · refine mw_iconst (pc' := 69) (v := 0) dX11_line_68 rfl (by decide) ?_
            exact J7 _ (by rw [if_neg c8, if_neg c9, if_neg c10, if_pos c11])
          · refine mw_iconst (pc' := 65) (v := 1) dX11_line_64 rfl (by decide) ?_
            refine mw_goto (tgt := 69) dX11_line_65 (by decide) ?_
            exact J7 _ (by rw [if_neg c8, if_neg c9, if_neg c10, if_neg c11])
  refine mw_if_eq (pc' := 11) (tgt := 26) dX11_line_8 rfl (by decide) (fun c13 => ?_) (fun c13 => ?_)
  · refine mw_iconst (pc' := 27) (v := 0) dX11_line_26 rfl (by decide) ?_
    exact J12 _ (by rw [if_pos c13])
  · refine mw_iload_n (pc' := 12) dX11_line_11 rfl rfl ?_
    refine mw_bipush (pc' := 14) (v := (-9)) dX11_line_12 rfl (by decide) ?_
    refine mw_bipush (pc' := 16) (v := 9) dX11_line_14 rfl (by decide) ?_
    refine mw_callS (pc' := 19) (b' := (0, 0)) (b1 := (b1 + 2, b2 + 13)) (av := [.inl v2, .inl (-9), .inl 9]) (rest := []) dX11_line_16 rfl lkX11_67 rfl rfl (Nat.le_of_ble_eq_true rfl) ⟨Nat.le_of_eq (Nat.zero_add _), Nat.le_of_eq (Nat.zero_add _)⟩ ?_
    refine pX11_within ?_
    refine mw_if_eq (pc' := 22) (tgt := 26) dX11_line_19 rfl (by decide) (fun c14 => ?_) (fun c14 => ?_)
    · refine mw_iconst (pc' := 27) (v := 0) dX11_line_26 rfl (by decide) ?_
      exact J12 _ (by rw [if_neg c13, if_pos c14])
    · refine mw_iconst (pc' := 23) (v := 1) dX11_line_22 rfl (by decide) ?_
      refine mw_goto (tgt := 27) dX11_line_23 (by decide) ?_
      exact J12 _ (by rw [if_neg c13, if_neg c14])

set_option maxRecDepth 100000 in
set_option maxHeartbeats 4000000 in
theorem qX11_hears {G : mG} {d : Nat} {b1 b2 : Nat} {h : mH} {Q : Option mV → mH → Prop} (v1 : Int32) (v2 : Int32) (v3 : Int32) (hS : mSk h)
    (K : ∀ w1 : Int32, w1 = (if (f_X11_within v2 0 99) = 0 then 0 else (if (f_X11_within v3 0 99) = 0 then 0 else 1)) → mC G kX2_hasSounder (d + 4) (0, 0) [.inr (some 11), .inl v1] h (fun r h2 => ∃ x3, r = some (.inl x3) ∧ mSk h2 ∧ ((x3 = 0 → Q (some (.inl (-1))) h2) ∧ (¬ x3 = 0 → ((¬ w1 = 0 → mC G kX11_addNote (d + 4) (3, 518) [.inr (some 8), .inl 0, .inl v1, .inl v2, .inl v3] h2 (fun r h4 => ∃ x5, r = some (.inl x5) ∧ mSk h4 ∧ Q (some (.inl x5)) h4)) ∧ (w1 = 0 → Q (some (.inl (-1))) h2)))))) : mC G kX11_hears (d + 5) (b1 + 3, b2 + 518) [.inr (some 8), .inl v1, .inl v2, .inl v3] h Q := by
  refine mC_in rfl (Nat.le_of_ble_eq_true rfl) ?_
  show mW _ _ _ _ _ [some (.inr (some 8)), some (.inl v1), some (.inl v2), some (.inl v3), none] _ _ _
  refine mw_iload_n (pc' := 1) dX11_hears_0 rfl rfl ?_
  refine mw_iconst (pc' := 2) (v := 0) dX11_hears_1 rfl (by decide) ?_
  refine mw_bipush (pc' := 4) (v := 99) dX11_hears_2 rfl (by decide) ?_
  refine mw_callS (pc' := 7) (b' := (0, 0)) (b1 := (b1 + 3, b2 + 518)) (av := [.inl v2, .inl 0, .inl 99]) (rest := []) dX11_hears_4 rfl lkX11_67 rfl rfl (Nat.le_of_ble_eq_true rfl) ⟨Nat.le_of_eq (Nat.zero_add _), Nat.le_of_eq (Nat.zero_add _)⟩ ?_
  refine pX11_within ?_
  have J8 : ∀ w1 : Int32, w1 = (if (f_X11_within v2 0 99) = 0 then 0 else (if (f_X11_within v3 0 99) = 0 then 0 else 1)) → mW G kX11_hears (d + 5) (b1 + 3, b2 + 518) 25 [some (.inr (some 8)), some (.inl v1), some (.inl v2), some (.inl v3), none] ([.inl w1]) h Q := by
    intro w1 ew1
    replace K := K w1 ew1
    refine mw_istore (pc' := 27) dX11_hears_25 rfl (by decide) ?_
    show mW _ _ _ _ _ [some (.inr (some 8)), some (.inl v1), some (.inl v2), some (.inl v3), some (.inl w1)] _ _ _
    refine mw_aload_n (pc' := 28) dX11_hears_27 rfl rfl ?_
    refine mw_getR (pc' := 31) dX11_hears_28 rfl flX11_34 rfl (skT_8 hS) ?_
    rw [skR_8_3 hS]
    refine mw_iload_n (pc' := 32) dX11_hears_31 rfl rfl ?_
    refine mw_callV (pc' := 35) (b' := (0, 0)) (b1 := (b1 + 3, b2 + 518)) (av := [.inl v1]) (rest := []) dX11_hears_32 rfl lkX11_152 rfl rfl (Nat.le_of_ble_eq_true rfl) ⟨Nat.le_of_eq (Nat.zero_add _), Nat.le_of_eq (Nat.zero_add _)⟩ (skT_11 hS) ?_
    refine mC_mono (fun r h2 hr => ?_) K
    obtain ⟨x3, rfl, hS, K⟩ := hr
    show mW _ _ _ _ _ _ [.inl x3] _ _
    refine mw_if_eq (pc' := 38) (tgt := 43) dX11_hears_35 rfl (by decide) (fun c7 => ?_) (fun c7 => ?_)
    · replace K := K.1 c7
      refine mw_iconst (pc' := 44) (v := (-1)) dX11_hears_43 rfl (by decide) ?_
      exact mw_iret dX11_hears_44 rfl rfl K
    · replace K := K.2 c7
      refine mw_iload (pc' := 40) dX11_hears_38 rfl rfl ?_
      refine mw_if_ne (pc' := 43) (tgt := 45) dX11_hears_40 rfl (by decide) (fun c6 => ?_) (fun c6 => ?_)
      · replace K := K.1 c6
        refine mw_aload_n (pc' := 46) dX11_hears_45 rfl rfl ?_
        refine mw_iconst (pc' := 47) (v := 0) dX11_hears_46 rfl (by decide) ?_
        refine mw_iload_n (pc' := 48) dX11_hears_47 rfl rfl ?_
        refine mw_iload_n (pc' := 49) dX11_hears_48 rfl rfl ?_
        refine mw_iload_n (pc' := 50) dX11_hears_49 rfl rfl ?_
        refine mw_callV (pc' := 53) (b' := (3, 518)) (b1 := (b1, b2)) (av := [.inl 0, .inl v1, .inl v2, .inl v3]) (rest := []) dX11_hears_50 rfl lkX11_169 rfl rfl (Nat.le_of_ble_eq_true rfl) ⟨by dsimp only; omega, by dsimp only; omega⟩ (skT_8 hS) ?_
        refine mC_mono (fun r h4 hr => ?_) K
        obtain ⟨x5, rfl, hS, K⟩ := hr
        show mW _ _ _ _ _ _ [.inl x5] _ _
        exact mw_iret dX11_hears_53 rfl rfl K
      · replace K := K.2 c6
        refine mw_iconst (pc' := 44) (v := (-1)) dX11_hears_43 rfl (by decide) ?_
        exact mw_iret dX11_hears_44 rfl rfl K
  refine mw_if_eq (pc' := 10) (tgt := 24) dX11_hears_7 rfl (by decide) (fun c9 => ?_) (fun c9 => ?_)
  · refine mw_iconst (pc' := 25) (v := 0) dX11_hears_24 rfl (by decide) ?_
    exact J8 _ (by rw [if_pos c9])
  · refine mw_iload_n (pc' := 11) dX11_hears_10 rfl rfl ?_
    refine mw_iconst (pc' := 12) (v := 0) dX11_hears_11 rfl (by decide) ?_
    refine mw_bipush (pc' := 14) (v := 99) dX11_hears_12 rfl (by decide) ?_
    refine mw_callS (pc' := 17) (b' := (0, 0)) (b1 := (b1 + 3, b2 + 518)) (av := [.inl v3, .inl 0, .inl 99]) (rest := []) dX11_hears_14 rfl lkX11_67 rfl rfl (Nat.le_of_ble_eq_true rfl) ⟨Nat.le_of_eq (Nat.zero_add _), Nat.le_of_eq (Nat.zero_add _)⟩ ?_
    refine pX11_within ?_
    refine mw_if_eq (pc' := 20) (tgt := 24) dX11_hears_17 rfl (by decide) (fun c10 => ?_) (fun c10 => ?_)
    · refine mw_iconst (pc' := 25) (v := 0) dX11_hears_24 rfl (by decide) ?_
      exact J8 _ (by rw [if_neg c9, if_pos c10])
    · refine mw_iconst (pc' := 21) (v := 1) dX11_hears_20 rfl (by decide) ?_
      refine mw_goto (tgt := 25) dX11_hears_21 (by decide) ?_
      exact J8 _ (by rw [if_neg c9, if_neg c10])

set_option maxRecDepth 100000 in
set_option maxHeartbeats 4000000 in
theorem qX11_echo {G : mG} {d : Nat} {b1 b2 : Nat} {h : mH} {Q : Option mV → mH → Prop} (v1 : Int32) (v2 : Int32) (hS : mSk h)
    (K : (((f_X11_within v1 0 3) = 0 → Q (some (.inl (-1))) h) ∧ (¬ (f_X11_within v1 0 3) = 0 → ((¬ (f_X11_within v2 0 64) = 0 → mC G kX11_addNote (d + 4) (3, 518) [.inr (some 8), .inl 1, .inl v1, .inl v2, .inl 0] h (fun r h1 => ∃ x2, r = some (.inl x2) ∧ mSk h1 ∧ Q (some (.inl x2)) h1)) ∧ ((f_X11_within v2 0 64) = 0 → Q (some (.inl (-1))) h))))) : mC G kX11_echo (d + 5) (b1 + 3, b2 + 518) [.inr (some 8), .inl v1, .inl v2] h Q := by
  refine mC_in rfl (Nat.le_of_ble_eq_true rfl) ?_
  show mW _ _ _ _ _ [some (.inr (some 8)), some (.inl v1), some (.inl v2)] _ _ _
  refine mw_iload_n (pc' := 1) dX11_echo_0 rfl rfl ?_
  refine mw_iconst (pc' := 2) (v := 0) dX11_echo_1 rfl (by decide) ?_
  refine mw_iconst (pc' := 3) (v := 3) dX11_echo_2 rfl (by decide) ?_
  refine mw_callS (pc' := 6) (b' := (0, 0)) (b1 := (b1 + 3, b2 + 518)) (av := [.inl v1, .inl 0, .inl 3]) (rest := []) dX11_echo_3 rfl lkX11_67 rfl rfl (Nat.le_of_ble_eq_true rfl) ⟨Nat.le_of_eq (Nat.zero_add _), Nat.le_of_eq (Nat.zero_add _)⟩ ?_
  refine pX11_within ?_
  refine mw_if_eq (pc' := 9) (tgt := 19) dX11_echo_6 rfl (by decide) (fun c4 => ?_) (fun c4 => ?_)
  · replace K := K.1 c4
    refine mw_iconst (pc' := 20) (v := (-1)) dX11_echo_19 rfl (by decide) ?_
    exact mw_iret dX11_echo_20 rfl rfl K
  · replace K := K.2 c4
    refine mw_iload_n (pc' := 10) dX11_echo_9 rfl rfl ?_
    refine mw_iconst (pc' := 11) (v := 0) dX11_echo_10 rfl (by decide) ?_
    refine mw_bipush (pc' := 13) (v := 64) dX11_echo_11 rfl (by decide) ?_
    refine mw_callS (pc' := 16) (b' := (0, 0)) (b1 := (b1 + 3, b2 + 518)) (av := [.inl v2, .inl 0, .inl 64]) (rest := []) dX11_echo_13 rfl lkX11_67 rfl rfl (Nat.le_of_ble_eq_true rfl) ⟨Nat.le_of_eq (Nat.zero_add _), Nat.le_of_eq (Nat.zero_add _)⟩ ?_
    refine pX11_within ?_
    refine mw_if_ne (pc' := 19) (tgt := 21) dX11_echo_16 rfl (by decide) (fun c3 => ?_) (fun c3 => ?_)
    · replace K := K.1 c3
      refine mw_aload_n (pc' := 22) dX11_echo_21 rfl rfl ?_
      refine mw_iconst (pc' := 23) (v := 1) dX11_echo_22 rfl (by decide) ?_
      refine mw_iload_n (pc' := 24) dX11_echo_23 rfl rfl ?_
      refine mw_iload_n (pc' := 25) dX11_echo_24 rfl rfl ?_
      refine mw_iconst (pc' := 26) (v := 0) dX11_echo_25 rfl (by decide) ?_
      refine mw_callV (pc' := 29) (b' := (3, 518)) (b1 := (b1, b2)) (av := [.inl 1, .inl v1, .inl v2, .inl 0]) (rest := []) dX11_echo_26 rfl lkX11_169 rfl rfl (Nat.le_of_ble_eq_true rfl) ⟨by dsimp only; omega, by dsimp only; omega⟩ (skT_8 hS) ?_
      refine mC_mono (fun r h1 hr => ?_) K
      obtain ⟨x2, rfl, hS, K⟩ := hr
      show mW _ _ _ _ _ _ [.inl x2] _ _
      exact mw_iret dX11_echo_29 rfl rfl K
    · replace K := K.2 c3
      refine mw_iconst (pc' := 20) (v := (-1)) dX11_echo_19 rfl (by decide) ?_
      exact mw_iret dX11_echo_20 rfl rfl K

set_option maxRecDepth 100000 in
set_option maxHeartbeats 4000000 in
theorem qX11_back {G : mG} {d : Nat} {b : Nat × Nat} {h : mH} {Q : Option mV → mH → Prop}  (hS : mSk h)
    (K : ((¬ (mI h 28 1) = 0 → ∀ h1, h1 = mSI h 28 1 ((mI h 28 1) - 1) → mC G kX0_dropBeyond (d + 1) (0, 0) [.inr (some 33), .inr (some 28)] h1 (fun r h2 => r = none ∧ mSk h2 ∧ ∀ h3, h3 = mSI h2 8 7 ((mI h2 8 7) + 1) → Q (some (.inl (mI h3 28 1))) h3)) ∧ ((mI h 28 1) = 0 → Q (some (.inl (-1))) h))) : mC G kX11_back (d + 2) b [.inr (some 8)] h Q := by
  refine mC_in rfl (Nat.le_of_ble_eq_true rfl) ?_
  show mW _ _ _ _ _ [some (.inr (some 8))] _ _ _
  refine mw_aload_n (pc' := 1) dX11_back_0 rfl rfl ?_
  refine mw_getR (pc' := 4) dX11_back_1 rfl flX11_26 rfl (skT_8 hS) ?_
  rw [skR_8_2 hS]
  refine mw_getI (pc' := 7) dX11_back_4 rfl flX11_164 rfl (skT_28 hS) ?_
  refine mw_if_ne (pc' := 10) (tgt := 12) dX11_back_7 rfl (by decide) (fun c4 => ?_) (fun c4 => ?_)
  · replace K := K.1 c4
    refine mw_aload_n (pc' := 13) dX11_back_12 rfl rfl ?_
    refine mw_getR (pc' := 16) dX11_back_13 rfl flX11_26 rfl (skT_8 hS) ?_
    rw [skR_8_2 hS]
    refine mw_dup (pc' := 17) dX11_back_16 rfl ?_
    refine mw_getI (pc' := 20) dX11_back_17 rfl flX11_164 rfl (skT_28 hS) ?_
    refine mw_iconst (pc' := 21) (v := 1) dX11_back_20 rfl (by decide) ?_
    refine mw_isub (pc' := 22) dX11_back_21 rfl ?_
    refine mw_putIK (pc' := 25) dX11_back_22 rfl flX11_164 rfl (Or.inl rfl) ⟨rfl, rfl⟩ (skT_28 hS) hS (fun h1 eh1 hS => ?_)
    replace K := K h1 eh1
    refine mw_aload_n (pc' := 26) dX11_back_25 rfl rfl ?_
    refine mw_getR (pc' := 29) dX11_back_26 rfl flX11_38 rfl (skT_8 hS) ?_
    rw [skR_8_4 hS]
    refine mw_aload_n (pc' := 30) dX11_back_29 rfl rfl ?_
    refine mw_getR (pc' := 33) dX11_back_30 rfl flX11_26 rfl (skT_8 hS) ?_
    rw [skR_8_2 hS]
    refine mw_callV (pc' := 36) (b' := (0, 0)) (b1 := b) (av := [.inr (some 28)]) (rest := []) dX11_back_33 rfl lkX11_173 rfl rfl (Nat.le_of_ble_eq_true rfl) ⟨Nat.le_of_eq (Nat.zero_add _), Nat.le_of_eq (Nat.zero_add _)⟩ (skT_33 hS) ?_
    refine mC_mono (fun r h2 hr => ?_) K
    obtain ⟨rfl, hS, K⟩ := hr
    show mW _ _ _ _ _ _ [] _ _
    refine mw_aload_n (pc' := 37) dX11_back_36 rfl rfl ?_
    refine mw_dup (pc' := 38) dX11_back_37 rfl ?_
    refine mw_getI (pc' := 41) dX11_back_38 rfl flX11_56 rfl (skT_8 hS) ?_
    refine mw_iconst (pc' := 42) (v := 1) dX11_back_41 rfl (by decide) ?_
    refine mw_iadd (pc' := 43) dX11_back_42 rfl ?_
    refine mw_putIK (pc' := 46) dX11_back_43 rfl flX11_56 rfl (Or.inl rfl) ⟨rfl, rfl⟩ (skT_8 hS) hS (fun h3 eh3 hS => ?_)
    replace K := K h3 eh3
    refine mw_aload_n (pc' := 47) dX11_back_46 rfl rfl ?_
    refine mw_getR (pc' := 50) dX11_back_47 rfl flX11_26 rfl (skT_8 hS) ?_
    rw [skR_8_2 hS]
    refine mw_getI (pc' := 53) dX11_back_50 rfl flX11_164 rfl (skT_28 hS) ?_
    exact mw_iret dX11_back_53 rfl rfl K
  · replace K := K.2 c4
    refine mw_iconst (pc' := 11) (v := (-1)) dX11_back_10 rfl (by decide) ?_
    exact mw_iret dX11_back_11 rfl rfl K

set_option maxRecDepth 100000 in
set_option maxHeartbeats 4000000 in
theorem qX11_wrong {G : mG} {d : Nat} {b : Nat × Nat} {h : mH} {Q : Option mV → mH → Prop} (v1 : Int32) (hS : mSk h)
    (K : ((¬ (f_X11_within v1 0 3) = 0 → ((v1 = (mI h 28 2) → Q (some (.inl 1)) h) ∧ (¬ v1 = (mI h 28 2) → ∀ h1, h1 = mSI h 28 2 v1 → mC G kX0_restart d (0, 0) [.inr (some 33)] h1 (fun r h2 => r = none ∧ mSk h2 ∧ ∀ h3, h3 = mSI h2 8 7 ((mI h2 8 7) + 1) → Q (some (.inl 1)) h3)))) ∧ ((f_X11_within v1 0 3) = 0 → Q (some (.inl 0)) h))) : mC G kX11_wrong (d + 1) b [.inr (some 8), .inl v1] h Q := by
  refine mC_in rfl (Nat.le_of_ble_eq_true rfl) ?_
  show mW _ _ _ _ _ [some (.inr (some 8)), some (.inl v1)] _ _ _
  refine mw_iload_n (pc' := 1) dX11_wrong_0 rfl rfl ?_
  refine mw_iconst (pc' := 2) (v := 0) dX11_wrong_1 rfl (by decide) ?_
  refine mw_iconst (pc' := 3) (v := 3) dX11_wrong_2 rfl (by decide) ?_
  refine mw_callS (pc' := 6) (b' := (0, 0)) (b1 := b) (av := [.inl v1, .inl 0, .inl 3]) (rest := []) dX11_wrong_3 rfl lkX11_67 rfl rfl (Nat.le_of_ble_eq_true rfl) ⟨Nat.le_of_eq (Nat.zero_add _), Nat.le_of_eq (Nat.zero_add _)⟩ ?_
  refine pX11_within ?_
  refine mw_if_ne (pc' := 9) (tgt := 11) dX11_wrong_6 rfl (by decide) (fun c5 => ?_) (fun c5 => ?_)
  · replace K := K.1 c5
    refine mw_iload_n (pc' := 12) dX11_wrong_11 rfl rfl ?_
    refine mw_aload_n (pc' := 13) dX11_wrong_12 rfl rfl ?_
    refine mw_getR (pc' := 16) dX11_wrong_13 rfl flX11_26 rfl (skT_8 hS) ?_
    rw [skR_8_2 hS]
    refine mw_getI (pc' := 19) dX11_wrong_16 rfl flX11_177 rfl (skT_28 hS) ?_
    refine mw_icmp_eq (pc' := 22) (tgt := 47) dX11_wrong_19 rfl (by decide) (fun c4 => ?_) (fun c4 => ?_)
    · replace K := K.1 c4
      refine mw_iconst (pc' := 48) (v := 1) dX11_wrong_47 rfl (by decide) ?_
      exact mw_iret dX11_wrong_48 rfl (by decide) K
    · replace K := K.2 c4
      refine mw_aload_n (pc' := 23) dX11_wrong_22 rfl rfl ?_
      refine mw_getR (pc' := 26) dX11_wrong_23 rfl flX11_26 rfl (skT_8 hS) ?_
      rw [skR_8_2 hS]
      refine mw_iload_n (pc' := 27) dX11_wrong_26 rfl rfl ?_
      refine mw_putIK (pc' := 30) dX11_wrong_27 rfl flX11_177 rfl (Or.inl rfl) ⟨rfl, rfl⟩ (skT_28 hS) hS (fun h1 eh1 hS => ?_)
      replace K := K h1 eh1
      refine mw_aload_n (pc' := 31) dX11_wrong_30 rfl rfl ?_
      refine mw_getR (pc' := 34) dX11_wrong_31 rfl flX11_38 rfl (skT_8 hS) ?_
      rw [skR_8_4 hS]
      refine mw_callV (pc' := 37) (b' := (0, 0)) (b1 := b) (av := []) (rest := []) dX11_wrong_34 rfl lkX11_114 rfl rfl (Nat.le_of_ble_eq_true rfl) ⟨Nat.le_of_eq (Nat.zero_add _), Nat.le_of_eq (Nat.zero_add _)⟩ (skT_33 hS) ?_
      refine mC_mono (fun r h2 hr => ?_) K
      obtain ⟨rfl, hS, K⟩ := hr
      show mW _ _ _ _ _ _ [] _ _
      refine mw_aload_n (pc' := 38) dX11_wrong_37 rfl rfl ?_
      refine mw_dup (pc' := 39) dX11_wrong_38 rfl ?_
      refine mw_getI (pc' := 42) dX11_wrong_39 rfl flX11_56 rfl (skT_8 hS) ?_
      refine mw_iconst (pc' := 43) (v := 1) dX11_wrong_42 rfl (by decide) ?_
      refine mw_iadd (pc' := 44) dX11_wrong_43 rfl ?_
      refine mw_putIK (pc' := 47) dX11_wrong_44 rfl flX11_56 rfl (Or.inl rfl) ⟨rfl, rfl⟩ (skT_8 hS) hS (fun h3 eh3 hS => ?_)
      replace K := K h3 eh3
      refine mw_iconst (pc' := 48) (v := 1) dX11_wrong_47 rfl (by decide) ?_
      exact mw_iret dX11_wrong_48 rfl (by decide) K
  · replace K := K.2 c5
    refine mw_iconst (pc' := 10) (v := 0) dX11_wrong_9 rfl (by decide) ?_
    exact mw_iret dX11_wrong_10 rfl (by decide) K

set_option maxRecDepth 100000 in
set_option maxHeartbeats 4000000 in
theorem qX11_box {G : mG} {d : Nat} {b : Nat × Nat} {h : mH} {Q : Option mV → mH → Prop} (v1 : Int32) (v2 : Int32) (v3 : Int32) (v4 : Int32) (hS : mSk h)
    (K : (((f_X11_inGrid v1 v2) = 0 → Q (some (.inl 0)) h) ∧ (¬ (f_X11_inGrid v1 v2) = 0 → (((f_X11_inGrid v3 v4) = 0 → Q (some (.inl 0)) h) ∧ (¬ (f_X11_inGrid v3 v4) = 0 → ((v3 < v1 → Q (some (.inl 0)) h) ∧ (¬ (v3 < v1) → ((v2 ≤ v4 → ∀ h1, h1 = mSI h 28 3 v2 → ∀ h2, h2 = mSI h1 28 4 v4 → ∀ h3, h3 = mSI h2 28 5 (f_X11_span v1 v3) → mC G kX0_restart d (0, 0) [.inr (some 33)] h3 (fun r h4 => r = none ∧ mSk h4 ∧ ∀ h5, h5 = mSI h4 8 7 ((mI h4 8 7) + 1) → Q (some (.inl 1)) h5)) ∧ (¬ (v2 ≤ v4) → Q (some (.inl 0)) h))))))))) : mC G kX11_box (d + 1) b [.inr (some 8), .inl v1, .inl v2, .inl v3, .inl v4] h Q := by
  refine mC_in rfl (Nat.le_of_ble_eq_true rfl) ?_
  show mW _ _ _ _ _ [some (.inr (some 8)), some (.inl v1), some (.inl v2), some (.inl v3), some (.inl v4)] _ _ _
  refine mw_iload_n (pc' := 1) dX11_box_0 rfl rfl ?_
  refine mw_iload_n (pc' := 2) dX11_box_1 rfl rfl ?_
  refine mw_callS (pc' := 5) (b' := (0, 0)) (b1 := b) (av := [.inl v1, .inl v2]) (rest := []) dX11_box_2 rfl lkX11_132 rfl rfl (Nat.le_of_ble_eq_true rfl) ⟨Nat.le_of_eq (Nat.zero_add _), Nat.le_of_eq (Nat.zero_add _)⟩ ?_
  refine pX11_inGrid ?_
  refine mw_if_eq (pc' := 8) (tgt := 28) dX11_box_5 rfl (by decide) (fun c9 => ?_) (fun c9 => ?_)
  · replace K := K.1 c9
    refine mw_iconst (pc' := 29) (v := 0) dX11_box_28 rfl (by decide) ?_
    exact mw_iret dX11_box_29 rfl (by decide) K
  · replace K := K.2 c9
    refine mw_iload_n (pc' := 9) dX11_box_8 rfl rfl ?_
    refine mw_iload (pc' := 11) dX11_box_9 rfl rfl ?_
    refine mw_callS (pc' := 14) (b' := (0, 0)) (b1 := b) (av := [.inl v3, .inl v4]) (rest := []) dX11_box_11 rfl lkX11_132 rfl rfl (Nat.le_of_ble_eq_true rfl) ⟨Nat.le_of_eq (Nat.zero_add _), Nat.le_of_eq (Nat.zero_add _)⟩ ?_
    refine pX11_inGrid ?_
    refine mw_if_eq (pc' := 17) (tgt := 28) dX11_box_14 rfl (by decide) (fun c8 => ?_) (fun c8 => ?_)
    · replace K := K.1 c8
      refine mw_iconst (pc' := 29) (v := 0) dX11_box_28 rfl (by decide) ?_
      exact mw_iret dX11_box_29 rfl (by decide) K
    · replace K := K.2 c8
      refine mw_iload_n (pc' := 18) dX11_box_17 rfl rfl ?_
      refine mw_iload_n (pc' := 19) dX11_box_18 rfl rfl ?_
      refine mw_icmp_gt (pc' := 22) (tgt := 28) dX11_box_19 rfl (by decide) (fun c7 => ?_) (fun c7 => ?_)
      · replace K := K.1 c7
        refine mw_iconst (pc' := 29) (v := 0) dX11_box_28 rfl (by decide) ?_
        exact mw_iret dX11_box_29 rfl (by decide) K
      · replace K := K.2 c7
        refine mw_iload_n (pc' := 23) dX11_box_22 rfl rfl ?_
        refine mw_iload (pc' := 25) dX11_box_23 rfl rfl ?_
        refine mw_icmp_le (pc' := 28) (tgt := 30) dX11_box_25 rfl (by decide) (fun c6 => ?_) (fun c6 => ?_)
        · replace K := K.1 c6
          refine mw_aload_n (pc' := 31) dX11_box_30 rfl rfl ?_
          refine mw_getR (pc' := 34) dX11_box_31 rfl flX11_26 rfl (skT_8 hS) ?_
          rw [skR_8_2 hS]
          refine mw_iload_n (pc' := 35) dX11_box_34 rfl rfl ?_
          refine mw_putIK (pc' := 38) dX11_box_35 rfl flX11_180 rfl (Or.inl rfl) ⟨rfl, rfl⟩ (skT_28 hS) hS (fun h1 eh1 hS => ?_)
          replace K := K h1 eh1
          refine mw_aload_n (pc' := 39) dX11_box_38 rfl rfl ?_
          refine mw_getR (pc' := 42) dX11_box_39 rfl flX11_26 rfl (skT_8 hS) ?_
          rw [skR_8_2 hS]
          refine mw_iload (pc' := 44) dX11_box_42 rfl rfl ?_
          refine mw_putIK (pc' := 47) dX11_box_44 rfl flX11_183 rfl (Or.inl rfl) ⟨rfl, rfl⟩ (skT_28 hS) hS (fun h2 eh2 hS => ?_)
          replace K := K h2 eh2
          refine mw_aload_n (pc' := 48) dX11_box_47 rfl rfl ?_
          refine mw_getR (pc' := 51) dX11_box_48 rfl flX11_26 rfl (skT_8 hS) ?_
          rw [skR_8_2 hS]
          refine mw_iload_n (pc' := 52) dX11_box_51 rfl rfl ?_
          refine mw_iload_n (pc' := 53) dX11_box_52 rfl rfl ?_
          refine mw_callS (pc' := 56) (b' := (0, 0)) (b1 := b) (av := [.inl v1, .inl v3]) (rest := [.inr (some 28)]) dX11_box_53 rfl lkX11_186 rfl rfl (Nat.le_of_ble_eq_true rfl) ⟨Nat.le_of_eq (Nat.zero_add _), Nat.le_of_eq (Nat.zero_add _)⟩ ?_
          refine pX11_span ?_
          refine mw_putIK (pc' := 59) dX11_box_56 rfl flX11_190 rfl (Or.inl rfl) ⟨rfl, rfl⟩ (skT_28 hS) hS (fun h3 eh3 hS => ?_)
          replace K := K h3 eh3
          refine mw_aload_n (pc' := 60) dX11_box_59 rfl rfl ?_
          refine mw_getR (pc' := 63) dX11_box_60 rfl flX11_38 rfl (skT_8 hS) ?_
          rw [skR_8_4 hS]
          refine mw_callV (pc' := 66) (b' := (0, 0)) (b1 := b) (av := []) (rest := []) dX11_box_63 rfl lkX11_114 rfl rfl (Nat.le_of_ble_eq_true rfl) ⟨Nat.le_of_eq (Nat.zero_add _), Nat.le_of_eq (Nat.zero_add _)⟩ (skT_33 hS) ?_
          refine mC_mono (fun r h4 hr => ?_) K
          obtain ⟨rfl, hS, K⟩ := hr
          show mW _ _ _ _ _ _ [] _ _
          refine mw_aload_n (pc' := 67) dX11_box_66 rfl rfl ?_
          refine mw_dup (pc' := 68) dX11_box_67 rfl ?_
          refine mw_getI (pc' := 71) dX11_box_68 rfl flX11_56 rfl (skT_8 hS) ?_
          refine mw_iconst (pc' := 72) (v := 1) dX11_box_71 rfl (by decide) ?_
          refine mw_iadd (pc' := 73) dX11_box_72 rfl ?_
          refine mw_putIK (pc' := 76) dX11_box_73 rfl flX11_56 rfl (Or.inl rfl) ⟨rfl, rfl⟩ (skT_8 hS) hS (fun h5 eh5 hS => ?_)
          replace K := K h5 eh5
          refine mw_iconst (pc' := 77) (v := 1) dX11_box_76 rfl (by decide) ?_
          exact mw_iret dX11_box_77 rfl (by decide) K
        · replace K := K.2 c6
          refine mw_iconst (pc' := 29) (v := 0) dX11_box_28 rfl (by decide) ?_
          exact mw_iret dX11_box_29 rfl (by decide) K

set_option maxRecDepth 100000 in
set_option maxHeartbeats 4000000 in
theorem qX11_fits {G : mG} {d : Nat} {b : Nat × Nat} {h : mH} {Q : Option mV → mH → Prop} (v1 : Int32) (hS : mSk h)
    (K : mC G kX0_get (d + 5) (0, 0) [.inr (some 33), .inl v1] h (fun r h1 => ∃ z2, r = some (.inr z2) ∧ mSk h1 ∧ ((z2 = none → Q (some (.inl (-1))) h1) ∧ (∀ y3, z2 = some y3 → mT h1 y3 = 2 ∧ mC G kX6_follow (d + 5) (0, 0) [.inr (some 28), .inr (some y3)] h1 (fun r h4 => r = none ∧ mSk h4 ∧ mT h4 y3 = 2 ∧ mC G kX6_badLine (d + 5) (0, 0) [.inr (some 28), .inr (some y3)] h4 (fun r h5 => ∃ x6, r = some (.inl x6) ∧ mSk h5 ∧ mT h5 y3 = 2 ∧ ∀ w7 : Int32, w7 = (if ¬ x6 = (-1) then 0 else 1) → Q (some (.inl w7)) h5)))))) : mC G kX11_fits (d + 6) b [.inr (some 8), .inl v1] h Q := by
  refine mC_in rfl (Nat.le_of_ble_eq_true rfl) ?_
  show mW _ _ _ _ _ [some (.inr (some 8)), some (.inl v1), none] _ _ _
  refine mw_aload_n (pc' := 1) dX11_fits_0 rfl rfl ?_
  refine mw_getR (pc' := 4) dX11_fits_1 rfl flX11_38 rfl (skT_8 hS) ?_
  rw [skR_8_4 hS]
  refine mw_iload_n (pc' := 5) dX11_fits_4 rfl rfl ?_
  refine mw_callV (pc' := 8) (b' := (0, 0)) (b1 := b) (av := [.inl v1]) (rest := []) dX11_fits_5 rfl lkX11_117 rfl rfl (Nat.le_of_ble_eq_true rfl) ⟨Nat.le_of_eq (Nat.zero_add _), Nat.le_of_eq (Nat.zero_add _)⟩ (skT_33 hS) ?_
  refine mC_mono (fun r h1 hr => ?_) K
  obtain ⟨z2, rfl, hS, K⟩ := hr
  show mW _ _ _ _ _ _ [.inr z2] _ _
  refine mw_astore_n (pc' := 9) dX11_fits_8 rfl (by decide) ?_
  show mW _ _ _ _ _ [some (.inr (some 8)), some (.inl v1), some (.inr z2)] _ _ _
  refine mw_aload_n (pc' := 10) dX11_fits_9 rfl rfl ?_
  refine mw_ifnonnull (pc' := 13) (tgt := 15) dX11_fits_10 rfl (by decide) (fun y3 c10 => ?_) (fun c10 => ?_)
  · obtain ⟨ty3, K⟩ := K.2 y3 c10
    try rw [c10]
    refine mw_aload_n (pc' := 16) dX11_fits_15 rfl rfl ?_
    refine mw_getR (pc' := 19) dX11_fits_16 rfl flX11_26 rfl (skT_8 hS) ?_
    rw [skR_8_2 hS]
    refine mw_aload_n (pc' := 20) dX11_fits_19 rfl rfl ?_
    refine mw_callV (pc' := 23) (b' := (0, 0)) (b1 := b) (av := [.inr (some y3)]) (rest := []) dX11_fits_20 rfl lkX11_193 rfl rfl (Nat.le_of_ble_eq_true rfl) ⟨Nat.le_of_eq (Nat.zero_add _), Nat.le_of_eq (Nat.zero_add _)⟩ (skT_28 hS) ?_
    refine mC_mono (fun r h4 hr => ?_) K
    obtain ⟨rfl, hS, ty3, K⟩ := hr
    show mW _ _ _ _ _ _ [] _ _
    refine mw_aload_n (pc' := 24) dX11_fits_23 rfl rfl ?_
    refine mw_getR (pc' := 27) dX11_fits_24 rfl flX11_26 rfl (skT_8 hS) ?_
    rw [skR_8_2 hS]
    refine mw_aload_n (pc' := 28) dX11_fits_27 rfl rfl ?_
    refine mw_callV (pc' := 31) (b' := (0, 0)) (b1 := b) (av := [.inr (some y3)]) (rest := []) dX11_fits_28 rfl lkX11_196 rfl rfl (Nat.le_of_ble_eq_true rfl) ⟨Nat.le_of_eq (Nat.zero_add _), Nat.le_of_eq (Nat.zero_add _)⟩ (skT_28 hS) ?_
    refine mC_mono (fun r h5 hr => ?_) K
    obtain ⟨x6, rfl, hS, ty3, K⟩ := hr
    show mW _ _ _ _ _ _ [.inl x6] _ _
    refine mw_iconst (pc' := 32) (v := (-1)) dX11_fits_31 rfl (by decide) ?_
    have J8 : ∀ w7 : Int32, w7 = (if ¬ x6 = (-1) then 0 else 1) → mW G kX11_fits (d + 6) b 40 [some (.inr (some 8)), some (.inl v1), some (.inr (some y3))] ([.inl w7]) h5 Q := by
      intro w7 ew7
      replace K := K w7 ew7
      exact mw_iret dX11_fits_40 rfl rfl K
    refine mw_icmp_ne (pc' := 35) (tgt := 39) dX11_fits_32 rfl (by decide) (fun c9 => ?_) (fun c9 => ?_)
    · refine mw_iconst (pc' := 40) (v := 0) dX11_fits_39 rfl (by decide) ?_
      exact J8 _ (by rw [if_pos c9])
    · refine mw_iconst (pc' := 36) (v := 1) dX11_fits_35 rfl (by decide) ?_
      refine mw_goto (tgt := 40) dX11_fits_36 (by decide) ?_
      exact J8 _ (by rw [if_neg (fun z => z c9)])
  · replace K := K.1 c10
    try rw [c10]
    refine mw_iconst (pc' := 14) (v := (-1)) dX11_fits_13 rfl (by decide) ?_
    exact mw_iret dX11_fits_14 rfl rfl K

set_option maxRecDepth 100000 in
set_option maxHeartbeats 4000000 in
theorem qX11_firstBad {G : mG} {d : Nat} {b : Nat × Nat} {h : mH} {Q : Option mV → mH → Prop} (v1 : Int32) (hS : mSk h)
    (K : mC G kX0_get (d + 5) (0, 0) [.inr (some 33), .inl v1] h (fun r h1 => ∃ z2, r = some (.inr z2) ∧ mSk h1 ∧ ((z2 = none → Q (some (.inl (-1))) h1) ∧ (∀ y3, z2 = some y3 → mT h1 y3 = 2 ∧ mC G kX6_follow (d + 5) (0, 0) [.inr (some 28), .inr (some y3)] h1 (fun r h4 => r = none ∧ mSk h4 ∧ mT h4 y3 = 2 ∧ mC G kX6_badLine (d + 5) (0, 0) [.inr (some 28), .inr (some y3)] h4 (fun r h5 => ∃ x6, r = some (.inl x6) ∧ mSk h5 ∧ mT h5 y3 = 2 ∧ ∀ w7 : Int32, w7 = (if ¬ x6 = (-1) then x6 else (-2)) → Q (some (.inl w7)) h5)))))) : mC G kX11_firstBad (d + 6) b [.inr (some 8), .inl v1] h Q := by
  refine mC_in rfl (Nat.le_of_ble_eq_true rfl) ?_
  show mW _ _ _ _ _ [some (.inr (some 8)), some (.inl v1), none, none] _ _ _
  refine mw_aload_n (pc' := 1) dX11_firstBad_0 rfl rfl ?_
  refine mw_getR (pc' := 4) dX11_firstBad_1 rfl flX11_38 rfl (skT_8 hS) ?_
  rw [skR_8_4 hS]
  refine mw_iload_n (pc' := 5) dX11_firstBad_4 rfl rfl ?_
  refine mw_callV (pc' := 8) (b' := (0, 0)) (b1 := b) (av := [.inl v1]) (rest := []) dX11_firstBad_5 rfl lkX11_117 rfl rfl (Nat.le_of_ble_eq_true rfl) ⟨Nat.le_of_eq (Nat.zero_add _), Nat.le_of_eq (Nat.zero_add _)⟩ (skT_33 hS) ?_
  refine mC_mono (fun r h1 hr => ?_) K
  obtain ⟨z2, rfl, hS, K⟩ := hr
  show mW _ _ _ _ _ _ [.inr z2] _ _
  refine mw_astore_n (pc' := 9) dX11_firstBad_8 rfl (by decide) ?_
  show mW _ _ _ _ _ [some (.inr (some 8)), some (.inl v1), some (.inr z2), none] _ _ _
  refine mw_aload_n (pc' := 10) dX11_firstBad_9 rfl rfl ?_
  refine mw_ifnonnull (pc' := 13) (tgt := 15) dX11_firstBad_10 rfl (by decide) (fun y3 c10 => ?_) (fun c10 => ?_)
  · obtain ⟨ty3, K⟩ := K.2 y3 c10
    try rw [c10]
    refine mw_aload_n (pc' := 16) dX11_firstBad_15 rfl rfl ?_
    refine mw_getR (pc' := 19) dX11_firstBad_16 rfl flX11_26 rfl (skT_8 hS) ?_
    rw [skR_8_2 hS]
    refine mw_aload_n (pc' := 20) dX11_firstBad_19 rfl rfl ?_
    refine mw_callV (pc' := 23) (b' := (0, 0)) (b1 := b) (av := [.inr (some y3)]) (rest := []) dX11_firstBad_20 rfl lkX11_193 rfl rfl (Nat.le_of_ble_eq_true rfl) ⟨Nat.le_of_eq (Nat.zero_add _), Nat.le_of_eq (Nat.zero_add _)⟩ (skT_28 hS) ?_
    refine mC_mono (fun r h4 hr => ?_) K
    obtain ⟨rfl, hS, ty3, K⟩ := hr
    show mW _ _ _ _ _ _ [] _ _
    refine mw_aload_n (pc' := 24) dX11_firstBad_23 rfl rfl ?_
    refine mw_getR (pc' := 27) dX11_firstBad_24 rfl flX11_26 rfl (skT_8 hS) ?_
    rw [skR_8_2 hS]
    refine mw_aload_n (pc' := 28) dX11_firstBad_27 rfl rfl ?_
    refine mw_callV (pc' := 31) (b' := (0, 0)) (b1 := b) (av := [.inr (some y3)]) (rest := []) dX11_firstBad_28 rfl lkX11_196 rfl rfl (Nat.le_of_ble_eq_true rfl) ⟨Nat.le_of_eq (Nat.zero_add _), Nat.le_of_eq (Nat.zero_add _)⟩ (skT_28 hS) ?_
    refine mC_mono (fun r h5 hr => ?_) K
    obtain ⟨x6, rfl, hS, ty3, K⟩ := hr
    show mW _ _ _ _ _ _ [.inl x6] _ _
    refine mw_istore_n (pc' := 32) dX11_firstBad_31 rfl (by decide) ?_
    show mW _ _ _ _ _ [some (.inr (some 8)), some (.inl v1), some (.inr (some y3)), some (.inl x6)] _ _ _
    refine mw_iload_n (pc' := 33) dX11_firstBad_32 rfl rfl ?_
    refine mw_iconst (pc' := 34) (v := (-1)) dX11_firstBad_33 rfl (by decide) ?_
    have J8 : ∀ w7 : Int32, w7 = (if ¬ x6 = (-1) then x6 else (-2)) → mW G kX11_firstBad (d + 6) b 43 [some (.inr (some 8)), some (.inl v1), some (.inr (some y3)), some (.inl x6)] ([.inl w7]) h5 Q := by
      intro w7 ew7
      replace K := K w7 ew7
      exact mw_iret dX11_firstBad_43 rfl rfl K
    refine mw_icmp_ne (pc' := 37) (tgt := 42) dX11_firstBad_34 rfl (by decide) (fun c9 => ?_) (fun c9 => ?_)
    · refine mw_iload_n (pc' := 43) dX11_firstBad_42 rfl rfl ?_
      exact J8 _ (by rw [if_pos c9])
    · refine mw_bipush (pc' := 39) (v := (-2)) dX11_firstBad_37 rfl (by decide) ?_
      refine mw_goto (tgt := 43) dX11_firstBad_39 (by decide) ?_
      exact J8 _ (by rw [if_neg (fun z => z c9)])
  · replace K := K.1 c10
    try rw [c10]
    refine mw_iconst (pc' := 14) (v := (-1)) dX11_firstBad_13 rfl (by decide) ?_
    exact mw_iret dX11_firstBad_14 rfl rfl K

set_option maxRecDepth 100000 in
set_option maxHeartbeats 4000000 in
theorem qX11_possible {G : mG} {d : Nat} {b : Nat × Nat} {h : mH} {Q : Option mV → mH → Prop} (v1 : Int32) (v2 : Int32) (hS : mSk h)
    (K : mC G kX0_get (d + 6) (0, 0) [.inr (some 33), .inl v1] h (fun r h1 => ∃ z2, r = some (.inr z2) ∧ mSk h1 ∧ (((f_X11_within v2 0 ((mI h1 28 1) - 1)) = 0 → Q (some (.inl (-2))) h1) ∧ (¬ (f_X11_within v2 0 ((mI h1 28 1) - 1)) = 0 → ((v1 = (-1) → ((¬ v1 = (-1) → ∀ w3 : Int32, w3 = (if ¬ v1 = (-1) then v1 else 0) → mW G kX11_possible (d + 7) b 73 [some (.inr (some 8)), none, some (.inl v2), none, some (.inl 0), some (.inl (v1 + 1)), some (.inl w3), none] [] h1 Q) ∧ (v1 = (-1) → ∀ w6 : Int32, w6 = (if ¬ v1 = (-1) then v1 else 0) → mW G kX11_possible (d + 7) b 73 [some (.inr (some 8)), none, some (.inl v2), none, some (.inl 0), some (.inl (mI h1 33 1)), some (.inl w6), none] [] h1 Q))) ∧ (¬ v1 = (-1) → ((z2 = none → Q (some (.inl (-2))) h1) ∧ (∀ y10, z2 = some y10 → mT h1 y10 = 2 ∧ ((¬ v1 = (-1) → ∀ w11 : Int32, w11 = (if ¬ v1 = (-1) then v1 else 0) → mW G kX11_possible (d + 7) b 73 [some (.inr (some 8)), none, some (.inl v2), none, some (.inl 0), some (.inl (v1 + 1)), some (.inl w11), none] [] h1 Q) ∧ (v1 = (-1) → ∀ w14 : Int32, w14 = (if ¬ v1 = (-1) then v1 else 0) → mW G kX11_possible (d + 7) b 73 [some (.inr (some 8)), none, some (.inl v2), none, some (.inl 0), some (.inl (mI h1 33 1)), some (.inl w14), none] [] h1 Q)))))))))) : mC G kX11_possible (d + 7) b [.inr (some 8), .inl v1, .inl v2] h Q := by
  refine mC_in rfl (Nat.le_of_ble_eq_true rfl) ?_
  show mW _ _ _ _ _ [some (.inr (some 8)), some (.inl v1), some (.inl v2), none, none, none, none, none] _ _ _
  refine mw_aload_n (pc' := 1) dX11_possible_0 rfl rfl ?_
  refine mw_getR (pc' := 4) dX11_possible_1 rfl flX11_38 rfl (skT_8 hS) ?_
  rw [skR_8_4 hS]
  refine mw_iload_n (pc' := 5) dX11_possible_4 rfl rfl ?_
  refine mw_callV (pc' := 8) (b' := (0, 0)) (b1 := b) (av := [.inl v1]) (rest := []) dX11_possible_5 rfl lkX11_117 rfl rfl (Nat.le_of_ble_eq_true rfl) ⟨Nat.le_of_eq (Nat.zero_add _), Nat.le_of_eq (Nat.zero_add _)⟩ (skT_33 hS) ?_
  refine mC_mono (fun r h1 hr => ?_) K
  obtain ⟨z2, rfl, hS, K⟩ := hr
  show mW _ _ _ _ _ _ [.inr z2] _ _
  refine mw_astore_n (pc' := 9) dX11_possible_8 rfl (by decide) ?_
  show mW _ _ _ _ _ [some (.inr (some 8)), some (.inl v1), some (.inl v2), some (.inr z2), none, none, none, none] _ _ _
  refine mw_iload_n (pc' := 10) dX11_possible_9 rfl rfl ?_
  refine mw_iconst (pc' := 11) (v := 0) dX11_possible_10 rfl (by decide) ?_
  refine mw_aload_n (pc' := 12) dX11_possible_11 rfl rfl ?_
  refine mw_getR (pc' := 15) dX11_possible_12 rfl flX11_26 rfl (skT_8 hS) ?_
  rw [skR_8_2 hS]
  refine mw_getI (pc' := 18) dX11_possible_15 rfl flX11_164 rfl (skT_28 hS) ?_
  refine mw_iconst (pc' := 19) (v := 1) dX11_possible_18 rfl (by decide) ?_
  refine mw_isub (pc' := 20) dX11_possible_19 rfl ?_
  refine mw_callS (pc' := 23) (b' := (0, 0)) (b1 := b) (av := [.inl v2, .inl 0, .inl ((mI h1 28 1) - 1)]) (rest := []) dX11_possible_20 rfl lkX11_67 rfl rfl (Nat.le_of_ble_eq_true rfl) ⟨Nat.le_of_eq (Nat.zero_add _), Nat.le_of_eq (Nat.zero_add _)⟩ ?_
  refine pX11_within ?_
  refine mw_if_eq (pc' := 26) (tgt := 35) dX11_possible_23 rfl (by decide) (fun c20 => ?_) (fun c20 => ?_)
  · replace K := K.1 c20
    refine mw_bipush (pc' := 37) (v := (-2)) dX11_possible_35 rfl (by decide) ?_
    exact mw_iret dX11_possible_37 rfl rfl K
  · replace K := K.2 c20
    refine mw_iload_n (pc' := 27) dX11_possible_26 rfl rfl ?_
    refine mw_iconst (pc' := 28) (v := (-1)) dX11_possible_27 rfl (by decide) ?_
    refine mw_icmp_eq (pc' := 31) (tgt := 38) dX11_possible_28 rfl (by decide) (fun c19 => ?_) (fun c19 => ?_)
    · replace K := K.1 c19
      refine mw_iconst (pc' := 39) (v := 0) dX11_possible_38 rfl (by decide) ?_
      refine mw_istore (pc' := 41) dX11_possible_39 rfl (by decide) ?_
      show mW _ _ _ _ _ [some (.inr (some 8)), some (.inl v1), some (.inl v2), some (.inr z2), some (.inl 0), none, none, none] _ _ _
      refine mw_iload_n (pc' := 42) dX11_possible_41 rfl rfl ?_
      refine mw_iconst (pc' := 43) (v := (-1)) dX11_possible_42 rfl (by decide) ?_
      refine mw_icmp_ne (pc' := 46) (tgt := 56) dX11_possible_43 rfl (by decide) (fun c9 => ?_) (fun c9 => ?_)
      · replace K := K.1 c9
        refine mw_iload_n (pc' := 57) dX11_possible_56 rfl rfl ?_
        refine mw_iconst (pc' := 58) (v := 1) dX11_possible_57 rfl (by decide) ?_
        refine mw_iadd (pc' := 59) dX11_possible_58 rfl ?_
        refine mw_istore (pc' := 61) dX11_possible_59 rfl (by decide) ?_
        show mW _ _ _ _ _ [some (.inr (some 8)), some (.inl v1), some (.inl v2), some (.inr z2), some (.inl 0), some (.inl (v1 + 1)), none, none] _ _ _
        refine mw_iload_n (pc' := 62) dX11_possible_61 rfl rfl ?_
        refine mw_iconst (pc' := 63) (v := (-1)) dX11_possible_62 rfl (by decide) ?_
        have J4 : ∀ w3 : Int32, w3 = (if ¬ v1 = (-1) then v1 else 0) → mW G kX11_possible (d + 7) b 71 [some (.inr (some 8)), some (.inl v1), some (.inl v2), some (.inr z2), some (.inl 0), some (.inl (v1 + 1)), none, none] ([.inl w3]) h1 Q := by
          intro w3 ew3
          replace K := K w3 ew3
          refine mw_istore (pc' := 73) dX11_possible_71 rfl (by decide) ?_
          show mW _ _ _ _ _ [some (.inr (some 8)), some (.inl v1), some (.inl v2), some (.inr z2), some (.inl 0), some (.inl (v1 + 1)), some (.inl w3), none] _ _ _
          refine mw_weak (ls' := [some (.inr (some 8)), none, some (.inl v2), none, some (.inl 0), some (.inl (v1 + 1)), some (.inl w3), none]) ?_ ?_
          · intro i v hv; match i, hv with
            | 0, hv => exact hv
            | 1, hv => cases hv
            | 2, hv => exact hv
            | 3, hv => cases hv
            | 4, hv => exact hv
            | 5, hv => exact hv
            | 6, hv => exact hv
            | 7, hv => cases hv
            | n + 8, hv => cases hv
          exact K
        refine mw_icmp_ne (pc' := 66) (tgt := 70) dX11_possible_63 rfl (by decide) (fun c5 => ?_) (fun c5 => ?_)
        · refine mw_iload_n (pc' := 71) dX11_possible_70 rfl rfl ?_
          exact J4 _ (by rw [if_pos c5])
        · refine mw_iconst (pc' := 67) (v := 0) dX11_possible_66 rfl (by decide) ?_
          refine mw_goto (tgt := 71) dX11_possible_67 (by decide) ?_
          exact J4 _ (by rw [if_neg (fun z => z c5)])
      · replace K := K.2 c9
        refine mw_aload_n (pc' := 47) dX11_possible_46 rfl rfl ?_
        refine mw_getR (pc' := 50) dX11_possible_47 rfl flX11_38 rfl (skT_8 hS) ?_
        rw [skR_8_4 hS]
        refine mw_getI (pc' := 53) dX11_possible_50 rfl flX11_71 rfl (skT_33 hS) ?_
        refine mw_goto (tgt := 59) dX11_possible_53 (by decide) ?_
        refine mw_istore (pc' := 61) dX11_possible_59 rfl (by decide) ?_
        show mW _ _ _ _ _ [some (.inr (some 8)), some (.inl v1), some (.inl v2), some (.inr z2), some (.inl 0), some (.inl (mI h1 33 1)), none, none] _ _ _
        refine mw_iload_n (pc' := 62) dX11_possible_61 rfl rfl ?_
        refine mw_iconst (pc' := 63) (v := (-1)) dX11_possible_62 rfl (by decide) ?_
        have J7 : ∀ w6 : Int32, w6 = (if ¬ v1 = (-1) then v1 else 0) → mW G kX11_possible (d + 7) b 71 [some (.inr (some 8)), some (.inl v1), some (.inl v2), some (.inr z2), some (.inl 0), some (.inl (mI h1 33 1)), none, none] ([.inl w6]) h1 Q := by
          intro w6 ew6
          replace K := K w6 ew6
          refine mw_istore (pc' := 73) dX11_possible_71 rfl (by decide) ?_
          show mW _ _ _ _ _ [some (.inr (some 8)), some (.inl v1), some (.inl v2), some (.inr z2), some (.inl 0), some (.inl (mI h1 33 1)), some (.inl w6), none] _ _ _
          refine mw_weak (ls' := [some (.inr (some 8)), none, some (.inl v2), none, some (.inl 0), some (.inl (mI h1 33 1)), some (.inl w6), none]) ?_ ?_
          · intro i v hv; match i, hv with
            | 0, hv => exact hv
            | 1, hv => cases hv
            | 2, hv => exact hv
            | 3, hv => cases hv
            | 4, hv => exact hv
            | 5, hv => exact hv
            | 6, hv => exact hv
            | 7, hv => cases hv
            | n + 8, hv => cases hv
          exact K
        refine mw_icmp_ne (pc' := 66) (tgt := 70) dX11_possible_63 rfl (by decide) (fun c8 => ?_) (fun c8 => ?_)
        · refine mw_iload_n (pc' := 71) dX11_possible_70 rfl rfl ?_
          exact J7 _ (by rw [if_pos c8])
        · refine mw_iconst (pc' := 67) (v := 0) dX11_possible_66 rfl (by decide) ?_
          refine mw_goto (tgt := 71) dX11_possible_67 (by decide) ?_
          exact J7 _ (by rw [if_neg (fun z => z c8)])
    · replace K := K.2 c19
      refine mw_aload_n (pc' := 32) dX11_possible_31 rfl rfl ?_
      refine mw_ifnonnull (pc' := 35) (tgt := 38) dX11_possible_32 rfl (by decide) (fun y10 c18 => ?_) (fun c18 => ?_)
      · obtain ⟨ty10, K⟩ := K.2 y10 c18
        try rw [c18]
        refine mw_iconst (pc' := 39) (v := 0) dX11_possible_38 rfl (by decide) ?_
        refine mw_istore (pc' := 41) dX11_possible_39 rfl (by decide) ?_
        show mW _ _ _ _ _ [some (.inr (some 8)), some (.inl v1), some (.inl v2), some (.inr (some y10)), some (.inl 0), none, none, none] _ _ _
        refine mw_iload_n (pc' := 42) dX11_possible_41 rfl rfl ?_
        refine mw_iconst (pc' := 43) (v := (-1)) dX11_possible_42 rfl (by decide) ?_
        refine mw_icmp_ne (pc' := 46) (tgt := 56) dX11_possible_43 rfl (by decide) (fun c17 => ?_) (fun c17 => ?_)
        · replace K := K.1 c17
          refine mw_iload_n (pc' := 57) dX11_possible_56 rfl rfl ?_
          refine mw_iconst (pc' := 58) (v := 1) dX11_possible_57 rfl (by decide) ?_
          refine mw_iadd (pc' := 59) dX11_possible_58 rfl ?_
          refine mw_istore (pc' := 61) dX11_possible_59 rfl (by decide) ?_
          show mW _ _ _ _ _ [some (.inr (some 8)), some (.inl v1), some (.inl v2), some (.inr (some y10)), some (.inl 0), some (.inl (v1 + 1)), none, none] _ _ _
          refine mw_iload_n (pc' := 62) dX11_possible_61 rfl rfl ?_
          refine mw_iconst (pc' := 63) (v := (-1)) dX11_possible_62 rfl (by decide) ?_
          have J12 : ∀ w11 : Int32, w11 = (if ¬ v1 = (-1) then v1 else 0) → mW G kX11_possible (d + 7) b 71 [some (.inr (some 8)), some (.inl v1), some (.inl v2), some (.inr (some y10)), some (.inl 0), some (.inl (v1 + 1)), none, none] ([.inl w11]) h1 Q := by
            intro w11 ew11
            replace K := K w11 ew11
            refine mw_istore (pc' := 73) dX11_possible_71 rfl (by decide) ?_
            show mW _ _ _ _ _ [some (.inr (some 8)), some (.inl v1), some (.inl v2), some (.inr (some y10)), some (.inl 0), some (.inl (v1 + 1)), some (.inl w11), none] _ _ _
            refine mw_weak (ls' := [some (.inr (some 8)), none, some (.inl v2), none, some (.inl 0), some (.inl (v1 + 1)), some (.inl w11), none]) ?_ ?_
            · intro i v hv; match i, hv with
              | 0, hv => exact hv
              | 1, hv => cases hv
              | 2, hv => exact hv
              | 3, hv => cases hv
              | 4, hv => exact hv
              | 5, hv => exact hv
              | 6, hv => exact hv
              | 7, hv => cases hv
              | n + 8, hv => cases hv
            exact K
          refine mw_icmp_ne (pc' := 66) (tgt := 70) dX11_possible_63 rfl (by decide) (fun c13 => ?_) (fun c13 => ?_)
          · refine mw_iload_n (pc' := 71) dX11_possible_70 rfl rfl ?_
            exact J12 _ (by rw [if_pos c13])
          · refine mw_iconst (pc' := 67) (v := 0) dX11_possible_66 rfl (by decide) ?_
            refine mw_goto (tgt := 71) dX11_possible_67 (by decide) ?_
            exact J12 _ (by rw [if_neg (fun z => z c13)])
        · replace K := K.2 c17
          refine mw_aload_n (pc' := 47) dX11_possible_46 rfl rfl ?_
          refine mw_getR (pc' := 50) dX11_possible_47 rfl flX11_38 rfl (skT_8 hS) ?_
          rw [skR_8_4 hS]
          refine mw_getI (pc' := 53) dX11_possible_50 rfl flX11_71 rfl (skT_33 hS) ?_
          refine mw_goto (tgt := 59) dX11_possible_53 (by decide) ?_
          refine mw_istore (pc' := 61) dX11_possible_59 rfl (by decide) ?_
          show mW _ _ _ _ _ [some (.inr (some 8)), some (.inl v1), some (.inl v2), some (.inr (some y10)), some (.inl 0), some (.inl (mI h1 33 1)), none, none] _ _ _
          refine mw_iload_n (pc' := 62) dX11_possible_61 rfl rfl ?_
          refine mw_iconst (pc' := 63) (v := (-1)) dX11_possible_62 rfl (by decide) ?_
          have J15 : ∀ w14 : Int32, w14 = (if ¬ v1 = (-1) then v1 else 0) → mW G kX11_possible (d + 7) b 71 [some (.inr (some 8)), some (.inl v1), some (.inl v2), some (.inr (some y10)), some (.inl 0), some (.inl (mI h1 33 1)), none, none] ([.inl w14]) h1 Q := by
            intro w14 ew14
            replace K := K w14 ew14
            refine mw_istore (pc' := 73) dX11_possible_71 rfl (by decide) ?_
            show mW _ _ _ _ _ [some (.inr (some 8)), some (.inl v1), some (.inl v2), some (.inr (some y10)), some (.inl 0), some (.inl (mI h1 33 1)), some (.inl w14), none] _ _ _
            refine mw_weak (ls' := [some (.inr (some 8)), none, some (.inl v2), none, some (.inl 0), some (.inl (mI h1 33 1)), some (.inl w14), none]) ?_ ?_
            · intro i v hv; match i, hv with
              | 0, hv => exact hv
              | 1, hv => cases hv
              | 2, hv => exact hv
              | 3, hv => cases hv
              | 4, hv => exact hv
              | 5, hv => exact hv
              | 6, hv => exact hv
              | 7, hv => cases hv
              | n + 8, hv => cases hv
            exact K
          refine mw_icmp_ne (pc' := 66) (tgt := 70) dX11_possible_63 rfl (by decide) (fun c16 => ?_) (fun c16 => ?_)
          · refine mw_iload_n (pc' := 71) dX11_possible_70 rfl rfl ?_
            exact J15 _ (by rw [if_pos c16])
          · refine mw_iconst (pc' := 67) (v := 0) dX11_possible_66 rfl (by decide) ?_
            refine mw_goto (tgt := 71) dX11_possible_67 (by decide) ?_
            exact J15 _ (by rw [if_neg (fun z => z c16)])
      · replace K := K.1 c18
        try rw [c18]
        refine mw_bipush (pc' := 37) (v := (-2)) dX11_possible_35 rfl (by decide) ?_
        exact mw_iret dX11_possible_37 rfl rfl K

set_option maxRecDepth 100000 in
set_option maxHeartbeats 4000000 in
theorem qX11_possible_73 {G : mG} {d : Nat} {b : Nat × Nat} {h : mH} {Q : Option mV → mH → Prop} (v2 : Int32) (v4 : Int32) (v5 : Int32) (v6 : Int32) (hS : mSk h)
    (K : ((v5 ≤ v6 → Q (some (.inl v4)) h) ∧ (¬ (v5 ≤ v6) → mC G kX0_get (d + 6) (0, 0) [.inr (some 33), .inl v6] h (fun r h1 => ∃ z2, r = some (.inr z2) ∧ mSk h1 ∧ ((z2 = none → mW G kX11_possible (d + 7) b 73 [some (.inr (some 8)), none, some (.inl v2), none, some (.inl v4), some (.inl v5), some (.inl (v6 + 1)), none] [] h1 Q) ∧ (∀ y3, z2 = some y3 → mT h1 y3 = 2 ∧ mC G kX6_placesAt (d + 6) (0, 0) [.inr (some 28), .inr (some y3), .inl v2, .inl (mI h1 8 7)] h1 (fun r h4 => ∃ z5, r = some (.inr z5) ∧ mSk h4 ∧ mT h4 y3 = 2 ∧ mC G kX11_bitsIn (d + 6) (0, 0) [.inr z5, .inl 0] h4 (fun r h6 => ∃ x7, r = some (.inl x7) ∧ mSk h6 ∧ mT h6 y3 = 2 ∧ mW G kX11_possible (d + 7) b 73 [some (.inr (some 8)), none, some (.inl v2), none, some (.inl (v4 + x7)), some (.inl v5), some (.inl (v6 + 1)), none] [] h6 Q)))))))) : mW G kX11_possible (d + 7) b 73 [some (.inr (some 8)), none, some (.inl v2), none, some (.inl v4), some (.inl v5), some (.inl v6), none] [] h Q := by
  refine mw_iload (pc' := 75) dX11_possible_73 rfl rfl ?_
  refine mw_iload (pc' := 77) dX11_possible_75 rfl rfl ?_
  refine mw_icmp_ge (pc' := 80) (tgt := 125) dX11_possible_77 rfl (by decide) (fun c9 => ?_) (fun c9 => ?_)
  · replace K := K.1 c9
    refine mw_iload (pc' := 127) dX11_possible_125 rfl rfl ?_
    exact mw_iret dX11_possible_127 rfl rfl K
  · replace K := K.2 c9
    refine mw_aload_n (pc' := 81) dX11_possible_80 rfl rfl ?_
    refine mw_getR (pc' := 84) dX11_possible_81 rfl flX11_38 rfl (skT_8 hS) ?_
    rw [skR_8_4 hS]
    refine mw_iload (pc' := 86) dX11_possible_84 rfl rfl ?_
    refine mw_callV (pc' := 89) (b' := (0, 0)) (b1 := b) (av := [.inl v6]) (rest := []) dX11_possible_86 rfl lkX11_117 rfl rfl (Nat.le_of_ble_eq_true rfl) ⟨Nat.le_of_eq (Nat.zero_add _), Nat.le_of_eq (Nat.zero_add _)⟩ (skT_33 hS) ?_
    refine mC_mono (fun r h1 hr => ?_) K
    obtain ⟨z2, rfl, hS, K⟩ := hr
    show mW _ _ _ _ _ _ [.inr z2] _ _
    refine mw_astore (pc' := 91) dX11_possible_89 rfl (by decide) ?_
    show mW _ _ _ _ _ [some (.inr (some 8)), none, some (.inl v2), none, some (.inl v4), some (.inl v5), some (.inl v6), some (.inr z2)] _ _ _
    refine mw_aload (pc' := 93) dX11_possible_91 rfl rfl ?_
    refine mw_ifnull (pc' := 96) (tgt := 119) dX11_possible_93 rfl (by decide) (fun c8 => ?_) (fun y3 c8 => ?_)
    · replace K := K.1 c8
      try rw [c8]
      refine mw_iinc (pc' := 122) (v := v6 + 1) dX11_possible_119 rfl (by decide) rfl rfl ?_
      show mW _ _ _ _ _ [some (.inr (some 8)), none, some (.inl v2), none, some (.inl v4), some (.inl v5), some (.inl (v6 + 1)), some (.inr none)] _ _ _
      refine mw_goto (tgt := 73) dX11_possible_122 (by decide) ?_
      refine mw_weak (ls' := [some (.inr (some 8)), none, some (.inl v2), none, some (.inl v4), some (.inl v5), some (.inl (v6 + 1)), none]) ?_ ?_
      · intro i v hv; match i, hv with
        | 0, hv => exact hv
        | 1, hv => cases hv
        | 2, hv => exact hv
        | 3, hv => cases hv
        | 4, hv => exact hv
        | 5, hv => exact hv
        | 6, hv => exact hv
        | 7, hv => cases hv
        | n + 8, hv => cases hv
      exact K
    · obtain ⟨ty3, K⟩ := K.2 y3 c8
      try rw [c8]
      refine mw_iload (pc' := 98) dX11_possible_96 rfl rfl ?_
      refine mw_aload_n (pc' := 99) dX11_possible_98 rfl rfl ?_
      refine mw_getR (pc' := 102) dX11_possible_99 rfl flX11_26 rfl (skT_8 hS) ?_
      rw [skR_8_2 hS]
      refine mw_aload (pc' := 104) dX11_possible_102 rfl rfl ?_
      refine mw_iload_n (pc' := 105) dX11_possible_104 rfl rfl ?_
      refine mw_aload_n (pc' := 106) dX11_possible_105 rfl rfl ?_
      refine mw_getI (pc' := 109) dX11_possible_106 rfl flX11_56 rfl (skT_8 hS) ?_
      refine mw_callV (pc' := 112) (b' := (0, 0)) (b1 := b) (av := [.inr (some y3), .inl v2, .inl (mI h1 8 7)]) (rest := [.inl v4]) dX11_possible_109 rfl lkX11_200 rfl rfl (Nat.le_of_ble_eq_true rfl) ⟨Nat.le_of_eq (Nat.zero_add _), Nat.le_of_eq (Nat.zero_add _)⟩ (skT_28 hS) ?_
      refine mC_mono (fun r h4 hr => ?_) K
      obtain ⟨z5, rfl, hS, ty3, K⟩ := hr
      show mW _ _ _ _ _ _ [.inr z5, .inl v4] _ _
      refine mw_iconst (pc' := 113) (v := 0) dX11_possible_112 rfl (by decide) ?_
      refine mw_callS (pc' := 116) (b' := (0, 0)) (b1 := b) (av := [.inr z5, .inl 0]) (rest := [.inl v4]) dX11_possible_113 rfl lkX11_204 rfl rfl (Nat.le_of_ble_eq_true rfl) ⟨Nat.le_of_eq (Nat.zero_add _), Nat.le_of_eq (Nat.zero_add _)⟩ ?_
      refine mC_mono (fun r h6 hr => ?_) K
      obtain ⟨x7, rfl, hS, ty3, K⟩ := hr
      show mW _ _ _ _ _ _ [.inl x7, .inl v4] _ _
      refine mw_iadd (pc' := 117) dX11_possible_116 rfl ?_
      refine mw_istore (pc' := 119) dX11_possible_117 rfl (by decide) ?_
      show mW _ _ _ _ _ [some (.inr (some 8)), none, some (.inl v2), none, some (.inl (v4 + x7)), some (.inl v5), some (.inl v6), some (.inr (some y3))] _ _ _
      refine mw_iinc (pc' := 122) (v := v6 + 1) dX11_possible_119 rfl (by decide) rfl rfl ?_
      show mW _ _ _ _ _ [some (.inr (some 8)), none, some (.inl v2), none, some (.inl (v4 + x7)), some (.inl v5), some (.inl (v6 + 1)), some (.inr (some y3))] _ _ _
      refine mw_goto (tgt := 73) dX11_possible_122 (by decide) ?_
      refine mw_weak (ls' := [some (.inr (some 8)), none, some (.inl v2), none, some (.inl (v4 + x7)), some (.inl v5), some (.inl (v6 + 1)), none]) ?_ ?_
      · intro i v hv; match i, hv with
        | 0, hv => exact hv
        | 1, hv => cases hv
        | 2, hv => exact hv
        | 3, hv => cases hv
        | 4, hv => exact hv
        | 5, hv => exact hv
        | 6, hv => exact hv
        | 7, hv => cases hv
        | n + 8, hv => cases hv
      exact K

set_option maxRecDepth 100000 in
set_option maxHeartbeats 4000000 in
theorem qX11_isPossible {G : mG} {d : Nat} {b : Nat × Nat} {h : mH} {Q : Option mV → mH → Prop} (v1 : Int32) (v2 : Int32) (v3 : Int32) (v4 : Int32) (hS : mSk h)
    (K : mC G kX0_get (d + 6) (0, 0) [.inr (some 33), .inl v1] h (fun r h1 => ∃ z2, r = some (.inr z2) ∧ mSk h1 ∧ ((z2 = none → Q (some (.inl (-1))) h1) ∧ (∀ y3, z2 = some y3 → mT h1 y3 = 2 ∧ (((f_X11_within v2 0 ((mI h1 28 1) - 1)) = 0 → Q (some (.inl (-1))) h1) ∧ (¬ (f_X11_within v2 0 ((mI h1 28 1) - 1)) = 0 → ((¬ (f_X11_inGrid v3 v4) = 0 → mC G kX6_placesAt (d + 6) (0, 0) [.inr (some 28), .inr (some y3), .inl v2, .inl (mI h1 8 7)] h1 (fun r h4 => ∃ z5, r = some (.inr z5) ∧ mSk h4 ∧ mT h4 y3 = 2 ∧ ∃ y6, z5 = some y6 ∧ mT h4 y6 = 100 ∧ vp_in v4 (mL h4 y6) ∧ Q (some (.inl ((m_ushr (mI h4 y6 v4.toNatClampNeg) v3) &&& 1))) h4)) ∧ ((f_X11_inGrid v3 v4) = 0 → Q (some (.inl (-1))) h1)))))))) : mC G kX11_isPossible (d + 7) b [.inr (some 8), .inl v1, .inl v2, .inl v3, .inl v4] h Q := by
  refine mC_in rfl (Nat.le_of_ble_eq_true rfl) ?_
  show mW _ _ _ _ _ [some (.inr (some 8)), some (.inl v1), some (.inl v2), some (.inl v3), some (.inl v4), none] _ _ _
  refine mw_aload_n (pc' := 1) dX11_isPossible_0 rfl rfl ?_
  refine mw_getR (pc' := 4) dX11_isPossible_1 rfl flX11_38 rfl (skT_8 hS) ?_
  rw [skR_8_4 hS]
  refine mw_iload_n (pc' := 5) dX11_isPossible_4 rfl rfl ?_
  refine mw_callV (pc' := 8) (b' := (0, 0)) (b1 := b) (av := [.inl v1]) (rest := []) dX11_isPossible_5 rfl lkX11_117 rfl rfl (Nat.le_of_ble_eq_true rfl) ⟨Nat.le_of_eq (Nat.zero_add _), Nat.le_of_eq (Nat.zero_add _)⟩ (skT_33 hS) ?_
  refine mC_mono (fun r h1 hr => ?_) K
  obtain ⟨z2, rfl, hS, K⟩ := hr
  show mW _ _ _ _ _ _ [.inr z2] _ _
  refine mw_astore (pc' := 10) dX11_isPossible_8 rfl (by decide) ?_
  show mW _ _ _ _ _ [some (.inr (some 8)), some (.inl v1), some (.inl v2), some (.inl v3), some (.inl v4), some (.inr z2)] _ _ _
  refine mw_aload (pc' := 12) dX11_isPossible_10 rfl rfl ?_
  refine mw_ifnull (pc' := 15) (tgt := 41) dX11_isPossible_12 rfl (by decide) (fun c10 => ?_) (fun y3 c10 => ?_)
  · replace K := K.1 c10
    try rw [c10]
    refine mw_iconst (pc' := 42) (v := (-1)) dX11_isPossible_41 rfl (by decide) ?_
    exact mw_iret dX11_isPossible_42 rfl rfl K
  · obtain ⟨ty3, K⟩ := K.2 y3 c10
    try rw [c10]
    refine mw_iload_n (pc' := 16) dX11_isPossible_15 rfl rfl ?_
    refine mw_iconst (pc' := 17) (v := 0) dX11_isPossible_16 rfl (by decide) ?_
    refine mw_aload_n (pc' := 18) dX11_isPossible_17 rfl rfl ?_
    refine mw_getR (pc' := 21) dX11_isPossible_18 rfl flX11_26 rfl (skT_8 hS) ?_
    rw [skR_8_2 hS]
    refine mw_getI (pc' := 24) dX11_isPossible_21 rfl flX11_164 rfl (skT_28 hS) ?_
    refine mw_iconst (pc' := 25) (v := 1) dX11_isPossible_24 rfl (by decide) ?_
    refine mw_isub (pc' := 26) dX11_isPossible_25 rfl ?_
    refine mw_callS (pc' := 29) (b' := (0, 0)) (b1 := b) (av := [.inl v2, .inl 0, .inl ((mI h1 28 1) - 1)]) (rest := []) dX11_isPossible_26 rfl lkX11_67 rfl rfl (Nat.le_of_ble_eq_true rfl) ⟨Nat.le_of_eq (Nat.zero_add _), Nat.le_of_eq (Nat.zero_add _)⟩ ?_
    refine pX11_within ?_
    refine mw_if_eq (pc' := 32) (tgt := 41) dX11_isPossible_29 rfl (by decide) (fun c9 => ?_) (fun c9 => ?_)
    · replace K := K.1 c9
      refine mw_iconst (pc' := 42) (v := (-1)) dX11_isPossible_41 rfl (by decide) ?_
      exact mw_iret dX11_isPossible_42 rfl rfl K
    · replace K := K.2 c9
      refine mw_iload_n (pc' := 33) dX11_isPossible_32 rfl rfl ?_
      refine mw_iload (pc' := 35) dX11_isPossible_33 rfl rfl ?_
      refine mw_callS (pc' := 38) (b' := (0, 0)) (b1 := b) (av := [.inl v3, .inl v4]) (rest := []) dX11_isPossible_35 rfl lkX11_132 rfl rfl (Nat.le_of_ble_eq_true rfl) ⟨Nat.le_of_eq (Nat.zero_add _), Nat.le_of_eq (Nat.zero_add _)⟩ ?_
      refine pX11_inGrid ?_
      refine mw_if_ne (pc' := 41) (tgt := 43) dX11_isPossible_38 rfl (by decide) (fun c8 => ?_) (fun c8 => ?_)
      · replace K := K.1 c8
        refine mw_aload_n (pc' := 44) dX11_isPossible_43 rfl rfl ?_
        refine mw_getR (pc' := 47) dX11_isPossible_44 rfl flX11_26 rfl (skT_8 hS) ?_
        rw [skR_8_2 hS]
        refine mw_aload (pc' := 49) dX11_isPossible_47 rfl rfl ?_
        refine mw_iload_n (pc' := 50) dX11_isPossible_49 rfl rfl ?_
        refine mw_aload_n (pc' := 51) dX11_isPossible_50 rfl rfl ?_
        refine mw_getI (pc' := 54) dX11_isPossible_51 rfl flX11_56 rfl (skT_8 hS) ?_
        refine mw_callV (pc' := 57) (b' := (0, 0)) (b1 := b) (av := [.inr (some y3), .inl v2, .inl (mI h1 8 7)]) (rest := []) dX11_isPossible_54 rfl lkX11_200 rfl rfl (Nat.le_of_ble_eq_true rfl) ⟨Nat.le_of_eq (Nat.zero_add _), Nat.le_of_eq (Nat.zero_add _)⟩ (skT_28 hS) ?_
        refine mC_mono (fun r h4 hr => ?_) K
        obtain ⟨z5, rfl, hS, ty3, K⟩ := hr
        show mW _ _ _ _ _ _ [.inr z5] _ _
        refine mw_iload (pc' := 59) dX11_isPossible_57 rfl rfl ?_
        obtain ⟨y6, ey6, ty6, K⟩ := K
        rw [ey6]
        obtain ⟨o7, K⟩ := K
        refine mw_ialdL (pc' := 60) dX11_isPossible_59 rfl (ty6) (rfl) o7 ?_
        refine mw_iload_n (pc' := 61) dX11_isPossible_60 rfl rfl ?_
        refine mw_iushrM (pc' := 62) dX11_isPossible_61 rfl ?_
        refine mw_iconst (pc' := 63) (v := 1) dX11_isPossible_62 rfl (by decide) ?_
        refine mw_iand (pc' := 64) dX11_isPossible_63 rfl ?_
        exact mw_iret dX11_isPossible_64 rfl rfl K
      · replace K := K.2 c8
        refine mw_iconst (pc' := 42) (v := (-1)) dX11_isPossible_41 rfl (by decide) ?_
        exact mw_iret dX11_isPossible_42 rfl rfl K

set_option maxRecDepth 100000 in
set_option maxHeartbeats 4000000 in
theorem qX11_sure {G : mG} {d : Nat} {b : Nat × Nat} {h : mH} {Q : Option mV → mH → Prop} (v1 : Int32) (v2 : Int32) (v3 : Int32) (hS : mSk h)
    (K : (((f_X11_inGrid v1 v2) = 0 → Q (some (.inl (-3))) h) ∧ (¬ (f_X11_inGrid v1 v2) = 0 → ((¬ (f_X11_within v3 0 2) = 0 → mC G kX0_survey (d + 6) (0, 0) [.inr (some 33), .inr (some 28), .inl (mI h 8 7)] h (fun r h1 => r = none ∧ mSk h1 ∧ ((¬ (mI h1 33 2) = 0 → ((v3 = 0 → vp_in v2 32 ∧ ((¬ ((m_ushr (mI h1 35 v2.toNatClampNeg) v1) &&& 1) = 1 → mC G kX0_isSureWater (d + 6) (0, 0) [.inr (some 33), .inl v1, .inl v2] h1 (fun r h3 => ∃ x4, r = some (.inl x4) ∧ mSk h3 ∧ ∀ w5 : Int32, w5 = (if x4 = 0 then 2 else 1) → Q (some (.inl w5)) h3)) ∧ (((m_ushr (mI h1 35 v2.toNatClampNeg) v1) &&& 1) = 1 → Q (some (.inl 0)) h1))) ∧ (¬ v3 = 0 → ∀ w9 : Int32, w9 = (if ¬ v3 = 1 then 0 else 1) → mC G kX0_lowestFitting (d + 6) (0, 0) [.inr (some 33), .inl v1, .inl v2, .inl w9] h1 (fun r h10 => ∃ x11, r = some (.inl x11) ∧ mSk h10 ∧ Q (some (.inl x11)) h10)))) ∧ ((mI h1 33 2) = 0 → Q (some (.inl (-2))) h1)))) ∧ ((f_X11_within v3 0 2) = 0 → Q (some (.inl (-3))) h))))) : mC G kX11_sure (d + 7) b [.inr (some 8), .inl v1, .inl v2, .inl v3] h Q := by
  refine mC_in rfl (Nat.le_of_ble_eq_true rfl) ?_
  show mW _ _ _ _ _ [some (.inr (some 8)), some (.inl v1), some (.inl v2), some (.inl v3)] _ _ _
  refine mw_iload_n (pc' := 1) dX11_sure_0 rfl rfl ?_
  refine mw_iload_n (pc' := 2) dX11_sure_1 rfl rfl ?_
  refine mw_callS (pc' := 5) (b' := (0, 0)) (b1 := b) (av := [.inl v1, .inl v2]) (rest := []) dX11_sure_2 rfl lkX11_132 rfl rfl (Nat.le_of_ble_eq_true rfl) ⟨Nat.le_of_eq (Nat.zero_add _), Nat.le_of_eq (Nat.zero_add _)⟩ ?_
  refine pX11_inGrid ?_
  refine mw_if_eq (pc' := 8) (tgt := 17) dX11_sure_5 rfl (by decide) (fun c17 => ?_) (fun c17 => ?_)
  · replace K := K.1 c17
    refine mw_bipush (pc' := 19) (v := (-3)) dX11_sure_17 rfl (by decide) ?_
    exact mw_iret dX11_sure_19 rfl rfl K
  · replace K := K.2 c17
    refine mw_iload_n (pc' := 9) dX11_sure_8 rfl rfl ?_
    refine mw_iconst (pc' := 10) (v := 0) dX11_sure_9 rfl (by decide) ?_
    refine mw_iconst (pc' := 11) (v := 2) dX11_sure_10 rfl (by decide) ?_
    refine mw_callS (pc' := 14) (b' := (0, 0)) (b1 := b) (av := [.inl v3, .inl 0, .inl 2]) (rest := []) dX11_sure_11 rfl lkX11_67 rfl rfl (Nat.le_of_ble_eq_true rfl) ⟨Nat.le_of_eq (Nat.zero_add _), Nat.le_of_eq (Nat.zero_add _)⟩ ?_
    refine pX11_within ?_
    refine mw_if_ne (pc' := 17) (tgt := 20) dX11_sure_14 rfl (by decide) (fun c16 => ?_) (fun c16 => ?_)
    · replace K := K.1 c16
      refine mw_aload_n (pc' := 21) dX11_sure_20 rfl rfl ?_
      refine mw_getR (pc' := 24) dX11_sure_21 rfl flX11_38 rfl (skT_8 hS) ?_
      rw [skR_8_4 hS]
      refine mw_aload_n (pc' := 25) dX11_sure_24 rfl rfl ?_
      refine mw_getR (pc' := 28) dX11_sure_25 rfl flX11_26 rfl (skT_8 hS) ?_
      rw [skR_8_2 hS]
      refine mw_aload_n (pc' := 29) dX11_sure_28 rfl rfl ?_
      refine mw_getI (pc' := 32) dX11_sure_29 rfl flX11_56 rfl (skT_8 hS) ?_
      refine mw_callV (pc' := 35) (b' := (0, 0)) (b1 := b) (av := [.inr (some 28), .inl (mI h 8 7)]) (rest := []) dX11_sure_32 rfl lkX11_208 rfl rfl (Nat.le_of_ble_eq_true rfl) ⟨Nat.le_of_eq (Nat.zero_add _), Nat.le_of_eq (Nat.zero_add _)⟩ (skT_33 hS) ?_
      refine mC_mono (fun r h1 hr => ?_) K
      obtain ⟨rfl, hS, K⟩ := hr
      show mW _ _ _ _ _ _ [] _ _
      refine mw_aload_n (pc' := 36) dX11_sure_35 rfl rfl ?_
      refine mw_getR (pc' := 39) dX11_sure_36 rfl flX11_38 rfl (skT_8 hS) ?_
      rw [skR_8_4 hS]
      refine mw_getI (pc' := 42) dX11_sure_39 rfl flX11_212 rfl (skT_33 hS) ?_
      refine mw_if_ne (pc' := 45) (tgt := 48) dX11_sure_42 rfl (by decide) (fun c15 => ?_) (fun c15 => ?_)
      · replace K := K.1 c15
        refine mw_iload_n (pc' := 49) dX11_sure_48 rfl rfl ?_
        refine mw_if_eq (pc' := 52) (tgt := 72) dX11_sure_49 rfl (by decide) (fun c14 => ?_) (fun c14 => ?_)
        · replace K := K.1 c14
          refine mw_aload_n (pc' := 73) dX11_sure_72 rfl rfl ?_
          refine mw_getR (pc' := 76) dX11_sure_73 rfl flX11_38 rfl (skT_8 hS) ?_
          rw [skR_8_4 hS]
          refine mw_getR (pc' := 79) dX11_sure_76 rfl flX11_219 rfl (skT_33 hS) ?_
          rw [skR_33_3 hS]
          refine mw_iload_n (pc' := 80) dX11_sure_79 rfl rfl ?_
          obtain ⟨o2, K⟩ := K
          refine mw_ialdL (pc' := 81) dX11_sure_80 rfl (skT_35 hS) (skL_35 hS) o2 ?_
          refine mw_iload_n (pc' := 82) dX11_sure_81 rfl rfl ?_
          refine mw_iushrM (pc' := 83) dX11_sure_82 rfl ?_
          refine mw_iconst (pc' := 84) (v := 1) dX11_sure_83 rfl (by decide) ?_
          refine mw_iand (pc' := 85) dX11_sure_84 rfl ?_
          refine mw_iconst (pc' := 86) (v := 1) dX11_sure_85 rfl (by decide) ?_
          refine mw_icmp_ne (pc' := 89) (tgt := 91) dX11_sure_86 rfl (by decide) (fun c8 => ?_) (fun c8 => ?_)
          · replace K := K.1 c8
            refine mw_aload_n (pc' := 92) dX11_sure_91 rfl rfl ?_
            refine mw_getR (pc' := 95) dX11_sure_92 rfl flX11_38 rfl (skT_8 hS) ?_
            rw [skR_8_4 hS]
            refine mw_iload_n (pc' := 96) dX11_sure_95 rfl rfl ?_
            refine mw_iload_n (pc' := 97) dX11_sure_96 rfl rfl ?_
            refine mw_callV (pc' := 100) (b' := (0, 0)) (b1 := b) (av := [.inl v1, .inl v2]) (rest := []) dX11_sure_97 rfl lkX11_222 rfl rfl (Nat.le_of_ble_eq_true rfl) ⟨Nat.le_of_eq (Nat.zero_add _), Nat.le_of_eq (Nat.zero_add _)⟩ (skT_33 hS) ?_
            refine mC_mono (fun r h3 hr => ?_) K
            obtain ⟨x4, rfl, hS, K⟩ := hr
            show mW _ _ _ _ _ _ [.inl x4] _ _
            have J6 : ∀ w5 : Int32, w5 = (if x4 = 0 then 2 else 1) → mW G kX11_sure (d + 7) b 108 [some (.inr (some 8)), some (.inl v1), some (.inl v2), some (.inl v3)] ([.inl w5]) h3 Q := by
              intro w5 ew5
              replace K := K w5 ew5
              exact mw_iret dX11_sure_108 rfl rfl K
            refine mw_if_eq (pc' := 103) (tgt := 107) dX11_sure_100 rfl (by decide) (fun c7 => ?_) (fun c7 => ?_)
            · refine mw_iconst (pc' := 108) (v := 2) dX11_sure_107 rfl (by decide) ?_
              exact J6 _ (by rw [if_pos c7])
            · refine mw_iconst (pc' := 104) (v := 1) dX11_sure_103 rfl (by decide) ?_
              refine mw_goto (tgt := 108) dX11_sure_104 (by decide) ?_
              exact J6 _ (by rw [if_neg c7])
          · replace K := K.2 c8
            refine mw_iconst (pc' := 90) (v := 0) dX11_sure_89 rfl (by decide) ?_
            exact mw_iret dX11_sure_90 rfl rfl K
        · replace K := K.2 c14
          refine mw_aload_n (pc' := 53) dX11_sure_52 rfl rfl ?_
          refine mw_getR (pc' := 56) dX11_sure_53 rfl flX11_38 rfl (skT_8 hS) ?_
          rw [skR_8_4 hS]
          refine mw_iload_n (pc' := 57) dX11_sure_56 rfl rfl ?_
          refine mw_iload_n (pc' := 58) dX11_sure_57 rfl rfl ?_
          refine mw_iload_n (pc' := 59) dX11_sure_58 rfl rfl ?_
          refine mw_iconst (pc' := 60) (v := 1) dX11_sure_59 rfl (by decide) ?_
          have J12 : ∀ w9 : Int32, w9 = (if ¬ v3 = 1 then 0 else 1) → mW G kX11_sure (d + 7) b 68 [some (.inr (some 8)), some (.inl v1), some (.inl v2), some (.inl v3)] ([.inl w9, .inl v2, .inl v1, .inr (some 33)]) h1 Q := by
            intro w9 ew9
            replace K := K w9 ew9
            refine mw_callV (pc' := 71) (b' := (0, 0)) (b1 := b) (av := [.inl v1, .inl v2, .inl w9]) (rest := []) dX11_sure_68 rfl lkX11_215 rfl rfl (Nat.le_of_ble_eq_true rfl) ⟨Nat.le_of_eq (Nat.zero_add _), Nat.le_of_eq (Nat.zero_add _)⟩ (skT_33 hS) ?_
            refine mC_mono (fun r h10 hr => ?_) K
            obtain ⟨x11, rfl, hS, K⟩ := hr
            show mW _ _ _ _ _ _ [.inl x11] _ _
            exact mw_iret dX11_sure_71 rfl rfl K
          refine mw_icmp_ne (pc' := 63) (tgt := 67) dX11_sure_60 rfl (by decide) (fun c13 => ?_) (fun c13 => ?_)
          · refine mw_iconst (pc' := 68) (v := 0) dX11_sure_67 rfl (by decide) ?_
            exact J12 _ (by rw [if_pos c13])
          · refine mw_iconst (pc' := 64) (v := 1) dX11_sure_63 rfl (by decide) ?_
            refine mw_goto (tgt := 68) dX11_sure_64 (by decide) ?_
            exact J12 _ (by rw [if_neg (fun z => z c13)])
      · replace K := K.2 c15
        refine mw_bipush (pc' := 47) (v := (-2)) dX11_sure_45 rfl (by decide) ?_
        exact mw_iret dX11_sure_47 rfl rfl K
    · replace K := K.2 c16
      refine mw_bipush (pc' := 19) (v := (-3)) dX11_sure_17 rfl (by decide) ?_
      exact mw_iret dX11_sure_19 rfl rfl K

set_option maxRecDepth 100000 in
set_option maxHeartbeats 4000000 in
theorem qX11_choice {G : mG} {d : Nat} {b : Nat × Nat} {h : mH} {Q : Option mV → mH → Prop} (v1 : Int32) (v2 : Int32) (v3 : Int32) (v4 : Int32) (hS : mSk h)
    (K : ∀ w1 : Int32, w1 = (if (f_X11_within v2 (-9) 9) = 0 then 0 else (if (f_X11_within v3 (-9) 9) = 0 then 0 else 1)) → (((f_X11_within v1 0 5) = 0 → Q (some (.inl 0)) h) ∧ (¬ (f_X11_within v1 0 5) = 0 → ((w1 = 0 → Q (some (.inl 0)) h) ∧ (¬ w1 = 0 → ((¬ (f_X11_within v4 0 3) = 0 → mC G kX8_tell d (0, 0) [.inr (some 41), .inl v1, .inl v2, .inl v3, .inl v4] h (fun r h2 => r = none ∧ mSk h2 ∧ ∀ h3, h3 = mSI h2 8 7 ((mI h2 8 7) + 1) → Q (some (.inl 1)) h3)) ∧ ((f_X11_within v4 0 3) = 0 → Q (some (.inl 0)) h))))))) : mC G kX11_choice (d + 1) b [.inr (some 8), .inl v1, .inl v2, .inl v3, .inl v4] h Q := by
  refine mC_in rfl (Nat.le_of_ble_eq_true rfl) ?_
  show mW _ _ _ _ _ [some (.inr (some 8)), some (.inl v1), some (.inl v2), some (.inl v3), some (.inl v4), none] _ _ _
  refine mw_iload_n (pc' := 1) dX11_choice_0 rfl rfl ?_
  refine mw_bipush (pc' := 3) (v := (-9)) dX11_choice_1 rfl (by decide) ?_
  refine mw_bipush (pc' := 5) (v := 9) dX11_choice_3 rfl (by decide) ?_
  refine mw_callS (pc' := 8) (b' := (0, 0)) (b1 := b) (av := [.inl v2, .inl (-9), .inl 9]) (rest := []) dX11_choice_5 rfl lkX11_67 rfl rfl (Nat.le_of_ble_eq_true rfl) ⟨Nat.le_of_eq (Nat.zero_add _), Nat.le_of_eq (Nat.zero_add _)⟩ ?_
  refine pX11_within ?_
  have J7 : ∀ w1 : Int32, w1 = (if (f_X11_within v2 (-9) 9) = 0 then 0 else (if (f_X11_within v3 (-9) 9) = 0 then 0 else 1)) → mW G kX11_choice (d + 1) b 27 [some (.inr (some 8)), some (.inl v1), some (.inl v2), some (.inl v3), some (.inl v4), none] ([.inl w1]) h Q := by
    intro w1 ew1
    replace K := K w1 ew1
    refine mw_istore (pc' := 29) dX11_choice_27 rfl (by decide) ?_
    show mW _ _ _ _ _ [some (.inr (some 8)), some (.inl v1), some (.inl v2), some (.inl v3), some (.inl v4), some (.inl w1)] _ _ _
    refine mw_iload_n (pc' := 30) dX11_choice_29 rfl rfl ?_
    refine mw_iconst (pc' := 31) (v := 0) dX11_choice_30 rfl (by decide) ?_
    refine mw_iconst (pc' := 32) (v := 5) dX11_choice_31 rfl (by decide) ?_
    refine mw_callS (pc' := 35) (b' := (0, 0)) (b1 := b) (av := [.inl v1, .inl 0, .inl 5]) (rest := []) dX11_choice_32 rfl lkX11_67 rfl rfl (Nat.le_of_ble_eq_true rfl) ⟨Nat.le_of_eq (Nat.zero_add _), Nat.le_of_eq (Nat.zero_add _)⟩ ?_
    refine pX11_within ?_
    refine mw_if_eq (pc' := 38) (tgt := 53) dX11_choice_35 rfl (by decide) (fun c6 => ?_) (fun c6 => ?_)
    · replace K := K.1 c6
      refine mw_iconst (pc' := 54) (v := 0) dX11_choice_53 rfl (by decide) ?_
      exact mw_iret dX11_choice_54 rfl (by decide) K
    · replace K := K.2 c6
      refine mw_iload (pc' := 40) dX11_choice_38 rfl rfl ?_
      refine mw_if_eq (pc' := 43) (tgt := 53) dX11_choice_40 rfl (by decide) (fun c5 => ?_) (fun c5 => ?_)
      · replace K := K.1 c5
        refine mw_iconst (pc' := 54) (v := 0) dX11_choice_53 rfl (by decide) ?_
        exact mw_iret dX11_choice_54 rfl (by decide) K
      · replace K := K.2 c5
        refine mw_iload (pc' := 45) dX11_choice_43 rfl rfl ?_
        refine mw_iconst (pc' := 46) (v := 0) dX11_choice_45 rfl (by decide) ?_
        refine mw_iconst (pc' := 47) (v := 3) dX11_choice_46 rfl (by decide) ?_
        refine mw_callS (pc' := 50) (b' := (0, 0)) (b1 := b) (av := [.inl v4, .inl 0, .inl 3]) (rest := []) dX11_choice_47 rfl lkX11_67 rfl rfl (Nat.le_of_ble_eq_true rfl) ⟨Nat.le_of_eq (Nat.zero_add _), Nat.le_of_eq (Nat.zero_add _)⟩ ?_
        refine pX11_within ?_
        refine mw_if_ne (pc' := 53) (tgt := 55) dX11_choice_50 rfl (by decide) (fun c4 => ?_) (fun c4 => ?_)
        · replace K := K.1 c4
          refine mw_aload_n (pc' := 56) dX11_choice_55 rfl rfl ?_
          refine mw_getR (pc' := 59) dX11_choice_56 rfl flX11_52 rfl (skT_8 hS) ?_
          rw [skR_8_6 hS]
          refine mw_iload_n (pc' := 60) dX11_choice_59 rfl rfl ?_
          refine mw_iload_n (pc' := 61) dX11_choice_60 rfl rfl ?_
          refine mw_iload_n (pc' := 62) dX11_choice_61 rfl rfl ?_
          refine mw_iload (pc' := 64) dX11_choice_62 rfl rfl ?_
          refine mw_callV (pc' := 67) (b' := (0, 0)) (b1 := b) (av := [.inl v1, .inl v2, .inl v3, .inl v4]) (rest := []) dX11_choice_64 rfl lkX11_225 rfl rfl (Nat.le_of_ble_eq_true rfl) ⟨Nat.le_of_eq (Nat.zero_add _), Nat.le_of_eq (Nat.zero_add _)⟩ (skT_41 hS) ?_
          refine mC_mono (fun r h2 hr => ?_) K
          obtain ⟨rfl, hS, K⟩ := hr
          show mW _ _ _ _ _ _ [] _ _
          refine mw_aload_n (pc' := 68) dX11_choice_67 rfl rfl ?_
          refine mw_dup (pc' := 69) dX11_choice_68 rfl ?_
          refine mw_getI (pc' := 72) dX11_choice_69 rfl flX11_56 rfl (skT_8 hS) ?_
          refine mw_iconst (pc' := 73) (v := 1) dX11_choice_72 rfl (by decide) ?_
          refine mw_iadd (pc' := 74) dX11_choice_73 rfl ?_
          refine mw_putIK (pc' := 77) dX11_choice_74 rfl flX11_56 rfl (Or.inl rfl) ⟨rfl, rfl⟩ (skT_8 hS) hS (fun h3 eh3 hS => ?_)
          replace K := K h3 eh3
          refine mw_iconst (pc' := 78) (v := 1) dX11_choice_77 rfl (by decide) ?_
          exact mw_iret dX11_choice_78 rfl (by decide) K
        · replace K := K.2 c4
          refine mw_iconst (pc' := 54) (v := 0) dX11_choice_53 rfl (by decide) ?_
          exact mw_iret dX11_choice_54 rfl (by decide) K
  refine mw_if_eq (pc' := 11) (tgt := 26) dX11_choice_8 rfl (by decide) (fun c8 => ?_) (fun c8 => ?_)
  · refine mw_iconst (pc' := 27) (v := 0) dX11_choice_26 rfl (by decide) ?_
    exact J7 _ (by rw [if_pos c8])
  · refine mw_iload_n (pc' := 12) dX11_choice_11 rfl rfl ?_
    refine mw_bipush (pc' := 14) (v := (-9)) dX11_choice_12 rfl (by decide) ?_
    refine mw_bipush (pc' := 16) (v := 9) dX11_choice_14 rfl (by decide) ?_
    refine mw_callS (pc' := 19) (b' := (0, 0)) (b1 := b) (av := [.inl v3, .inl (-9), .inl 9]) (rest := []) dX11_choice_16 rfl lkX11_67 rfl rfl (Nat.le_of_ble_eq_true rfl) ⟨Nat.le_of_eq (Nat.zero_add _), Nat.le_of_eq (Nat.zero_add _)⟩ ?_
    refine pX11_within ?_
    refine mw_if_eq (pc' := 22) (tgt := 26) dX11_choice_19 rfl (by decide) (fun c9 => ?_) (fun c9 => ?_)
    · refine mw_iconst (pc' := 27) (v := 0) dX11_choice_26 rfl (by decide) ?_
      exact J7 _ (by rw [if_neg c8, if_pos c9])
    · refine mw_iconst (pc' := 23) (v := 1) dX11_choice_22 rfl (by decide) ?_
      refine mw_goto (tgt := 27) dX11_choice_23 (by decide) ?_
      exact J7 _ (by rw [if_neg c8, if_neg c9])

set_option maxRecDepth 100000 in
set_option maxHeartbeats 4000000 in
theorem qX11_next {G : mG} {d : Nat} {b : Nat × Nat} {h : mH} {Q : Option mV → mH → Prop} (v1 : Int32) (hS : mSk h)
    (K : ((¬ (f_X11_within v1 0 3) = 0 → (((mI h 41 3) = 0 → Q (some (.inl (-2))) h) ∧ (¬ (mI h 41 3) = 0 → ((¬ (mI h 28 1) = 0 → mC G kX0_survey (d + 6) (0, 0) [.inr (some 33), .inr (some 28), .inl (mI h 8 7)] h (fun r h1 => r = none ∧ mSk h1 ∧ mC G kX8_weigh (d + 6) (0, 0) [.inr (some 41), .inr (some 33), .inr (some 28), .inl (mI h1 8 7)] h1 (fun r h2 => r = none ∧ mSk h2 ∧ ((¬ (mI h2 41 4) = 0 → ((((v1).toInt < 0 ∨ 2 < (v1).toInt) → Q (some (.inl (mI h2 41 4))) h2) ∧ (v1 = 0 → Q (some (.inl (mI h2 41 5))) h2) ∧ (v1 = 1 → Q (some (.inl (mI h2 41 6))) h2) ∧ (v1 = 2 → ((¬ (mI h2 41 6) = 0 → Q (some (.inl (mI h2 41 7))) h2) ∧ ((mI h2 41 6) = 0 → Q (some (.inl (-2))) h2))))) ∧ ((mI h2 41 4) = 0 → Q (some (.inl (-2))) h2))))) ∧ ((mI h 28 1) = 0 → Q (some (.inl (-2))) h))))) ∧ ((f_X11_within v1 0 3) = 0 → Q (some (.inl (-1))) h))) : mC G kX11_next (d + 7) b [.inr (some 8), .inl v1] h Q := by
  refine mC_in rfl (Nat.le_of_ble_eq_true rfl) ?_
  show mW _ _ _ _ _ [some (.inr (some 8)), some (.inl v1)] _ _ _
  refine mw_iload_n (pc' := 1) dX11_next_0 rfl rfl ?_
  refine mw_iconst (pc' := 2) (v := 0) dX11_next_1 rfl (by decide) ?_
  refine mw_iconst (pc' := 3) (v := 3) dX11_next_2 rfl (by decide) ?_
  refine mw_callS (pc' := 6) (b' := (0, 0)) (b1 := b) (av := [.inl v1, .inl 0, .inl 3]) (rest := []) dX11_next_3 rfl lkX11_67 rfl rfl (Nat.le_of_ble_eq_true rfl) ⟨Nat.le_of_eq (Nat.zero_add _), Nat.le_of_eq (Nat.zero_add _)⟩ ?_
  refine pX11_within ?_
  refine mw_if_ne (pc' := 9) (tgt := 11) dX11_next_6 rfl (by decide) (fun c8 => ?_) (fun c8 => ?_)
  · replace K := K.1 c8
    refine mw_aload_n (pc' := 12) dX11_next_11 rfl rfl ?_
    refine mw_getR (pc' := 15) dX11_next_12 rfl flX11_52 rfl (skT_8 hS) ?_
    rw [skR_8_6 hS]
    refine mw_getI (pc' := 18) dX11_next_15 rfl flX11_228 rfl (skT_41 hS) ?_
    refine mw_if_eq (pc' := 21) (tgt := 31) dX11_next_18 rfl (by decide) (fun c7 => ?_) (fun c7 => ?_)
    · replace K := K.1 c7
      refine mw_bipush (pc' := 33) (v := (-2)) dX11_next_31 rfl (by decide) ?_
      exact mw_iret dX11_next_33 rfl rfl K
    · replace K := K.2 c7
      refine mw_aload_n (pc' := 22) dX11_next_21 rfl rfl ?_
      refine mw_getR (pc' := 25) dX11_next_22 rfl flX11_26 rfl (skT_8 hS) ?_
      rw [skR_8_2 hS]
      refine mw_getI (pc' := 28) dX11_next_25 rfl flX11_164 rfl (skT_28 hS) ?_
      refine mw_if_ne (pc' := 31) (tgt := 34) dX11_next_28 rfl (by decide) (fun c6 => ?_) (fun c6 => ?_)
      · replace K := K.1 c6
        refine mw_aload_n (pc' := 35) dX11_next_34 rfl rfl ?_
        refine mw_getR (pc' := 38) dX11_next_35 rfl flX11_38 rfl (skT_8 hS) ?_
        rw [skR_8_4 hS]
        refine mw_aload_n (pc' := 39) dX11_next_38 rfl rfl ?_
        refine mw_getR (pc' := 42) dX11_next_39 rfl flX11_26 rfl (skT_8 hS) ?_
        rw [skR_8_2 hS]
        refine mw_aload_n (pc' := 43) dX11_next_42 rfl rfl ?_
        refine mw_getI (pc' := 46) dX11_next_43 rfl flX11_56 rfl (skT_8 hS) ?_
        refine mw_callV (pc' := 49) (b' := (0, 0)) (b1 := b) (av := [.inr (some 28), .inl (mI h 8 7)]) (rest := []) dX11_next_46 rfl lkX11_208 rfl rfl (Nat.le_of_ble_eq_true rfl) ⟨Nat.le_of_eq (Nat.zero_add _), Nat.le_of_eq (Nat.zero_add _)⟩ (skT_33 hS) ?_
        refine mC_mono (fun r h1 hr => ?_) K
        obtain ⟨rfl, hS, K⟩ := hr
        show mW _ _ _ _ _ _ [] _ _
        refine mw_aload_n (pc' := 50) dX11_next_49 rfl rfl ?_
        refine mw_getR (pc' := 53) dX11_next_50 rfl flX11_52 rfl (skT_8 hS) ?_
        rw [skR_8_6 hS]
        refine mw_aload_n (pc' := 54) dX11_next_53 rfl rfl ?_
        refine mw_getR (pc' := 57) dX11_next_54 rfl flX11_38 rfl (skT_8 hS) ?_
        rw [skR_8_4 hS]
        refine mw_aload_n (pc' := 58) dX11_next_57 rfl rfl ?_
        refine mw_getR (pc' := 61) dX11_next_58 rfl flX11_26 rfl (skT_8 hS) ?_
        rw [skR_8_2 hS]
        refine mw_aload_n (pc' := 62) dX11_next_61 rfl rfl ?_
        refine mw_getI (pc' := 65) dX11_next_62 rfl flX11_56 rfl (skT_8 hS) ?_
        refine mw_callV (pc' := 68) (b' := (0, 0)) (b1 := b) (av := [.inr (some 33), .inr (some 28), .inl (mI h1 8 7)]) (rest := []) dX11_next_65 rfl lkX11_231 rfl rfl (Nat.le_of_ble_eq_true rfl) ⟨Nat.le_of_eq (Nat.zero_add _), Nat.le_of_eq (Nat.zero_add _)⟩ (skT_41 hS) ?_
        refine mC_mono (fun r h2 hr => ?_) K
        obtain ⟨rfl, hS, K⟩ := hr
        show mW _ _ _ _ _ _ [] _ _
        refine mw_aload_n (pc' := 69) dX11_next_68 rfl rfl ?_
        refine mw_getR (pc' := 72) dX11_next_69 rfl flX11_52 rfl (skT_8 hS) ?_
        rw [skR_8_6 hS]
        refine mw_getI (pc' := 75) dX11_next_72 rfl flX11_235 rfl (skT_41 hS) ?_
        refine mw_if_ne (pc' := 78) (tgt := 81) dX11_next_75 rfl (by decide) (fun c5 => ?_) (fun c5 => ?_)
        · replace K := K.1 c5
          refine mw_iload_n (pc' := 82) dX11_next_81 rfl rfl ?_
          by_cases c3 : (v1).toInt < 0 ∨ 2 < (v1).toInt
          · replace K := K.1 c3
            refine mw_tableOut (tgt := 147) dX11_next_82 c3 (by decide) ?_
            refine mw_aload_n (pc' := 148) dX11_next_147 rfl rfl ?_
            refine mw_getR (pc' := 151) dX11_next_148 rfl flX11_52 rfl (skT_8 hS) ?_
            rw [skR_8_6 hS]
            refine mw_getI (pc' := 154) dX11_next_151 rfl flX11_235 rfl (skT_41 hS) ?_
            exact mw_iret dX11_next_154 rfl rfl K
          · replace K := K.2
            have hv : v1 = 0 ∨ v1 = 1 ∨ v1 = 2 := by
              rcases (show (v1).toInt = 0 ∨ (v1).toInt = 1 ∨ (v1).toInt = 2 by omega) with z | z | z
              · exact Or.inl (m_sw (z.trans (by decide)))
              · exact Or.inr (Or.inl (m_sw (z.trans (by decide))))
              · exact Or.inr (Or.inr (m_sw (z.trans (by decide))))
            rcases hv with hv | hv | hv
            · replace K := K.1 hv
              refine mw_tableIn (off := 26) (tgt := 108) dX11_next_82 (by rw [hv]; decide) (by rw [hv]; decide) (by rw [hv]; rfl) (by decide) ?_
              refine mw_aload_n (pc' := 109) dX11_next_108 rfl rfl ?_
              refine mw_getR (pc' := 112) dX11_next_109 rfl flX11_52 rfl (skT_8 hS) ?_
              rw [skR_8_6 hS]
              refine mw_getI (pc' := 115) dX11_next_112 rfl flX11_238 rfl (skT_41 hS) ?_
              exact mw_iret dX11_next_115 rfl rfl K
            · replace K := K.2.1 hv
              refine mw_tableIn (off := 34) (tgt := 116) dX11_next_82 (by rw [hv]; decide) (by rw [hv]; decide) (by rw [hv]; rfl) (by decide) ?_
              refine mw_aload_n (pc' := 117) dX11_next_116 rfl rfl ?_
              refine mw_getR (pc' := 120) dX11_next_117 rfl flX11_52 rfl (skT_8 hS) ?_
              rw [skR_8_6 hS]
              refine mw_getI (pc' := 123) dX11_next_120 rfl flX11_241 rfl (skT_41 hS) ?_
              exact mw_iret dX11_next_123 rfl rfl K
            · replace K := K.2.2 hv
              refine mw_tableIn (off := 42) (tgt := 124) dX11_next_82 (by rw [hv]; decide) (by rw [hv]; decide) (by rw [hv]; rfl) (by decide) ?_
              refine mw_aload_n (pc' := 125) dX11_next_124 rfl rfl ?_
              refine mw_getR (pc' := 128) dX11_next_125 rfl flX11_52 rfl (skT_8 hS) ?_
              rw [skR_8_6 hS]
              refine mw_getI (pc' := 131) dX11_next_128 rfl flX11_241 rfl (skT_41 hS) ?_
              refine mw_if_ne (pc' := 134) (tgt := 139) dX11_next_131 rfl (by decide) (fun c4 => ?_) (fun c4 => ?_)
              · replace K := K.1 c4
                refine mw_aload_n (pc' := 140) dX11_next_139 rfl rfl ?_
                refine mw_getR (pc' := 143) dX11_next_140 rfl flX11_52 rfl (skT_8 hS) ?_
                rw [skR_8_6 hS]
                refine mw_getI (pc' := 146) dX11_next_143 rfl flX11_244 rfl (skT_41 hS) ?_
                exact mw_iret dX11_next_146 rfl rfl K
              · replace K := K.2 c4
                refine mw_bipush (pc' := 136) (v := (-2)) dX11_next_134 rfl (by decide) ?_
                refine mw_goto (tgt := 146) dX11_next_136 (by decide) ?_
                exact mw_iret dX11_next_146 rfl rfl K
        · replace K := K.2 c5
          refine mw_bipush (pc' := 80) (v := (-2)) dX11_next_78 rfl (by decide) ?_
          exact mw_iret dX11_next_80 rfl rfl K
      · replace K := K.2 c6
        refine mw_bipush (pc' := 33) (v := (-2)) dX11_next_31 rfl (by decide) ?_
        exact mw_iret dX11_next_33 rfl rfl K
  · replace K := K.2 c8
    refine mw_iconst (pc' := 10) (v := (-1)) dX11_next_9 rfl (by decide) ?_
    exact mw_iret dX11_next_10 rfl rfl K

set_option maxRecDepth 100000 in
set_option maxHeartbeats 4000000 in
theorem qX11_ahead {G : mG} {d : Nat} {b : Nat × Nat} {h : mH} {Q : Option mV → mH → Prop} (v1 : Int32) (hS : mSk h)
    (K : ((¬ (f_X11_within v1 0 1) = 0 → (((mI h 41 3) = 0 → Q (some (.inl (-2))) h) ∧ (¬ (mI h 41 3) = 0 → ((¬ (mI h 28 1) = 0 → mC G kX0_survey (d + 6) (0, 0) [.inr (some 33), .inr (some 28), .inl (mI h 8 7)] h (fun r h1 => r = none ∧ mSk h1 ∧ mC G kX8_weighTwo (d + 6) (0, 0) [.inr (some 41), .inr (some 33), .inr (some 28), .inl (mI h1 8 7)] h1 (fun r h2 => r = none ∧ mSk h2 ∧ ((¬ (mI h2 41 4) = 0 → ((¬ v1 = 0 → Q (some (.inl (mI h2 41 9))) h2) ∧ (v1 = 0 → Q (some (.inl (mI h2 41 8))) h2))) ∧ ((mI h2 41 4) = 0 → Q (some (.inl (-2))) h2))))) ∧ ((mI h 28 1) = 0 → Q (some (.inl (-2))) h))))) ∧ ((f_X11_within v1 0 1) = 0 → Q (some (.inl (-1))) h))) : mC G kX11_ahead (d + 7) b [.inr (some 8), .inl v1] h Q := by
  refine mC_in rfl (Nat.le_of_ble_eq_true rfl) ?_
  show mW _ _ _ _ _ [some (.inr (some 8)), some (.inl v1)] _ _ _
  refine mw_iload_n (pc' := 1) dX11_ahead_0 rfl rfl ?_
  refine mw_iconst (pc' := 2) (v := 0) dX11_ahead_1 rfl (by decide) ?_
  refine mw_iconst (pc' := 3) (v := 1) dX11_ahead_2 rfl (by decide) ?_
  refine mw_callS (pc' := 6) (b' := (0, 0)) (b1 := b) (av := [.inl v1, .inl 0, .inl 1]) (rest := []) dX11_ahead_3 rfl lkX11_67 rfl rfl (Nat.le_of_ble_eq_true rfl) ⟨Nat.le_of_eq (Nat.zero_add _), Nat.le_of_eq (Nat.zero_add _)⟩ ?_
  refine pX11_within ?_
  refine mw_if_ne (pc' := 9) (tgt := 11) dX11_ahead_6 rfl (by decide) (fun c7 => ?_) (fun c7 => ?_)
  · replace K := K.1 c7
    refine mw_aload_n (pc' := 12) dX11_ahead_11 rfl rfl ?_
    refine mw_getR (pc' := 15) dX11_ahead_12 rfl flX11_52 rfl (skT_8 hS) ?_
    rw [skR_8_6 hS]
    refine mw_getI (pc' := 18) dX11_ahead_15 rfl flX11_228 rfl (skT_41 hS) ?_
    refine mw_if_eq (pc' := 21) (tgt := 31) dX11_ahead_18 rfl (by decide) (fun c6 => ?_) (fun c6 => ?_)
    · replace K := K.1 c6
      refine mw_bipush (pc' := 33) (v := (-2)) dX11_ahead_31 rfl (by decide) ?_
      exact mw_iret dX11_ahead_33 rfl rfl K
    · replace K := K.2 c6
      refine mw_aload_n (pc' := 22) dX11_ahead_21 rfl rfl ?_
      refine mw_getR (pc' := 25) dX11_ahead_22 rfl flX11_26 rfl (skT_8 hS) ?_
      rw [skR_8_2 hS]
      refine mw_getI (pc' := 28) dX11_ahead_25 rfl flX11_164 rfl (skT_28 hS) ?_
      refine mw_if_ne (pc' := 31) (tgt := 34) dX11_ahead_28 rfl (by decide) (fun c5 => ?_) (fun c5 => ?_)
      · replace K := K.1 c5
        refine mw_aload_n (pc' := 35) dX11_ahead_34 rfl rfl ?_
        refine mw_getR (pc' := 38) dX11_ahead_35 rfl flX11_38 rfl (skT_8 hS) ?_
        rw [skR_8_4 hS]
        refine mw_aload_n (pc' := 39) dX11_ahead_38 rfl rfl ?_
        refine mw_getR (pc' := 42) dX11_ahead_39 rfl flX11_26 rfl (skT_8 hS) ?_
        rw [skR_8_2 hS]
        refine mw_aload_n (pc' := 43) dX11_ahead_42 rfl rfl ?_
        refine mw_getI (pc' := 46) dX11_ahead_43 rfl flX11_56 rfl (skT_8 hS) ?_
        refine mw_callV (pc' := 49) (b' := (0, 0)) (b1 := b) (av := [.inr (some 28), .inl (mI h 8 7)]) (rest := []) dX11_ahead_46 rfl lkX11_208 rfl rfl (Nat.le_of_ble_eq_true rfl) ⟨Nat.le_of_eq (Nat.zero_add _), Nat.le_of_eq (Nat.zero_add _)⟩ (skT_33 hS) ?_
        refine mC_mono (fun r h1 hr => ?_) K
        obtain ⟨rfl, hS, K⟩ := hr
        show mW _ _ _ _ _ _ [] _ _
        refine mw_aload_n (pc' := 50) dX11_ahead_49 rfl rfl ?_
        refine mw_getR (pc' := 53) dX11_ahead_50 rfl flX11_52 rfl (skT_8 hS) ?_
        rw [skR_8_6 hS]
        refine mw_aload_n (pc' := 54) dX11_ahead_53 rfl rfl ?_
        refine mw_getR (pc' := 57) dX11_ahead_54 rfl flX11_38 rfl (skT_8 hS) ?_
        rw [skR_8_4 hS]
        refine mw_aload_n (pc' := 58) dX11_ahead_57 rfl rfl ?_
        refine mw_getR (pc' := 61) dX11_ahead_58 rfl flX11_26 rfl (skT_8 hS) ?_
        rw [skR_8_2 hS]
        refine mw_aload_n (pc' := 62) dX11_ahead_61 rfl rfl ?_
        refine mw_getI (pc' := 65) dX11_ahead_62 rfl flX11_56 rfl (skT_8 hS) ?_
        refine mw_callV (pc' := 68) (b' := (0, 0)) (b1 := b) (av := [.inr (some 33), .inr (some 28), .inl (mI h1 8 7)]) (rest := []) dX11_ahead_65 rfl lkX11_247 rfl rfl (Nat.le_of_ble_eq_true rfl) ⟨Nat.le_of_eq (Nat.zero_add _), Nat.le_of_eq (Nat.zero_add _)⟩ (skT_41 hS) ?_
        refine mC_mono (fun r h2 hr => ?_) K
        obtain ⟨rfl, hS, K⟩ := hr
        show mW _ _ _ _ _ _ [] _ _
        refine mw_aload_n (pc' := 69) dX11_ahead_68 rfl rfl ?_
        refine mw_getR (pc' := 72) dX11_ahead_69 rfl flX11_52 rfl (skT_8 hS) ?_
        rw [skR_8_6 hS]
        refine mw_getI (pc' := 75) dX11_ahead_72 rfl flX11_235 rfl (skT_41 hS) ?_
        refine mw_if_ne (pc' := 78) (tgt := 81) dX11_ahead_75 rfl (by decide) (fun c4 => ?_) (fun c4 => ?_)
        · replace K := K.1 c4
          refine mw_iload_n (pc' := 82) dX11_ahead_81 rfl rfl ?_
          refine mw_if_ne (pc' := 85) (tgt := 95) dX11_ahead_82 rfl (by decide) (fun c3 => ?_) (fun c3 => ?_)
          · replace K := K.1 c3
            refine mw_aload_n (pc' := 96) dX11_ahead_95 rfl rfl ?_
            refine mw_getR (pc' := 99) dX11_ahead_96 rfl flX11_52 rfl (skT_8 hS) ?_
            rw [skR_8_6 hS]
            refine mw_getI (pc' := 102) dX11_ahead_99 rfl flX11_253 rfl (skT_41 hS) ?_
            exact mw_iret dX11_ahead_102 rfl rfl K
          · replace K := K.2 c3
            refine mw_aload_n (pc' := 86) dX11_ahead_85 rfl rfl ?_
            refine mw_getR (pc' := 89) dX11_ahead_86 rfl flX11_52 rfl (skT_8 hS) ?_
            rw [skR_8_6 hS]
            refine mw_getI (pc' := 92) dX11_ahead_89 rfl flX11_250 rfl (skT_41 hS) ?_
            refine mw_goto (tgt := 102) dX11_ahead_92 (by decide) ?_
            exact mw_iret dX11_ahead_102 rfl rfl K
        · replace K := K.2 c4
          refine mw_bipush (pc' := 80) (v := (-2)) dX11_ahead_78 rfl (by decide) ?_
          exact mw_iret dX11_ahead_80 rfl rfl K
      · replace K := K.2 c5
        refine mw_bipush (pc' := 33) (v := (-2)) dX11_ahead_31 rfl (by decide) ?_
        exact mw_iret dX11_ahead_33 rfl rfl K
  · replace K := K.2 c7
    refine mw_iconst (pc' := 10) (v := (-1)) dX11_ahead_9 rfl (by decide) ?_
    exact mw_iret dX11_ahead_10 rfl rfl K

set_option maxRecDepth 100000 in
set_option maxHeartbeats 4000000 in
theorem qX11_wayIn {G : mG} {d : Nat} {b : Nat × Nat} {h : mH} {Q : Option mV → mH → Prop} (v1 : Int32) (v2 : Int32) (v3 : Int32) (v4 : Int32) (v5 : Int32) (hS : mSk h)
    (K : (((f_X11_inGrid v1 v2) = 0 → Q (some (.inl (-1))) h) ∧ (¬ (f_X11_inGrid v1 v2) = 0 → (((f_X11_inGrid v3 v4) = 0 → Q (some (.inl (-1))) h) ∧ (¬ (f_X11_inGrid v3 v4) = 0 → ((¬ (f_X11_within v5 (-1) 100) = 0 → mC G kX0_survey (d + 6) (0, 0) [.inr (some 33), .inr (some 28), .inl (mI h 8 7)] h (fun r h1 => r = none ∧ mSk h1 ∧ mC G kX0_isSureWater (d + 6) (0, 0) [.inr (some 33), .inl v1, .inl v2] h1 (fun r h2 => ∃ x3, r = some (.inl x3) ∧ mSk h2 ∧ ((x3 = 0 → Q (some (.inl (-2))) h2) ∧ (¬ x3 = 0 → mC G kX0_isSureWater (d + 6) (0, 0) [.inr (some 33), .inl v3, .inl v4] h2 (fun r h4 => ∃ x5, r = some (.inl x5) ∧ mSk h4 ∧ ((¬ x5 = 0 → mC G kX10_seek (d + 6) (0, 0) [.inr (some 38), .inr (some 36), .inl ((v2 * 32) + v1), .inl ((v4 * 32) + v3), .inl (mI h4 8 7)] h4 (fun r h6 => r = none ∧ mSk h6 ∧ ((¬ (mI h6 38 2) = 0 → ((¬ v5 = (-1) → ((¬ v5 = 100 → (((mI h6 38 4) ≤ v5 → Q (some (.inl (-1))) h6) ∧ (¬ ((mI h6 38 4) ≤ v5) → vp_in v5 100 ∧ Q (some (.inl (mI h6 40 v5.toNatClampNeg))) h6))) ∧ (v5 = 100 → Q (some (.inl (mI h6 38 4))) h6))) ∧ (v5 = (-1) → Q (some (.inl (mI h6 38 3))) h6))) ∧ ((mI h6 38 2) = 0 → Q (some (.inl (-2))) h6)))) ∧ (x5 = 0 → Q (some (.inl (-2))) h4)))))))) ∧ ((f_X11_within v5 (-1) 100) = 0 → Q (some (.inl (-1))) h))))))) : mC G kX11_wayIn (d + 7) b [.inr (some 8), .inl v1, .inl v2, .inl v3, .inl v4, .inl v5] h Q := by
  refine mC_in rfl (Nat.le_of_ble_eq_true rfl) ?_
  show mW _ _ _ _ _ [some (.inr (some 8)), some (.inl v1), some (.inl v2), some (.inl v3), some (.inl v4), some (.inl v5)] _ _ _
  refine mw_iload_n (pc' := 1) dX11_wayIn_0 rfl rfl ?_
  refine mw_iload_n (pc' := 2) dX11_wayIn_1 rfl rfl ?_
  refine mw_callS (pc' := 5) (b' := (0, 0)) (b1 := b) (av := [.inl v1, .inl v2]) (rest := []) dX11_wayIn_2 rfl lkX11_132 rfl rfl (Nat.le_of_ble_eq_true rfl) ⟨Nat.le_of_eq (Nat.zero_add _), Nat.le_of_eq (Nat.zero_add _)⟩ ?_
  refine pX11_inGrid ?_
  refine mw_if_eq (pc' := 8) (tgt := 28) dX11_wayIn_5 rfl (by decide) (fun c16 => ?_) (fun c16 => ?_)
  · replace K := K.1 c16
    refine mw_iconst (pc' := 29) (v := (-1)) dX11_wayIn_28 rfl (by decide) ?_
    exact mw_iret dX11_wayIn_29 rfl rfl K
  · replace K := K.2 c16
    refine mw_iload_n (pc' := 9) dX11_wayIn_8 rfl rfl ?_
    refine mw_iload (pc' := 11) dX11_wayIn_9 rfl rfl ?_
    refine mw_callS (pc' := 14) (b' := (0, 0)) (b1 := b) (av := [.inl v3, .inl v4]) (rest := []) dX11_wayIn_11 rfl lkX11_132 rfl rfl (Nat.le_of_ble_eq_true rfl) ⟨Nat.le_of_eq (Nat.zero_add _), Nat.le_of_eq (Nat.zero_add _)⟩ ?_
    refine pX11_inGrid ?_
    refine mw_if_eq (pc' := 17) (tgt := 28) dX11_wayIn_14 rfl (by decide) (fun c15 => ?_) (fun c15 => ?_)
    · replace K := K.1 c15
      refine mw_iconst (pc' := 29) (v := (-1)) dX11_wayIn_28 rfl (by decide) ?_
      exact mw_iret dX11_wayIn_29 rfl rfl K
    · replace K := K.2 c15
      refine mw_iload (pc' := 19) dX11_wayIn_17 rfl rfl ?_
      refine mw_iconst (pc' := 20) (v := (-1)) dX11_wayIn_19 rfl (by decide) ?_
      refine mw_bipush (pc' := 22) (v := 100) dX11_wayIn_20 rfl (by decide) ?_
      refine mw_callS (pc' := 25) (b' := (0, 0)) (b1 := b) (av := [.inl v5, .inl (-1), .inl 100]) (rest := []) dX11_wayIn_22 rfl lkX11_67 rfl rfl (Nat.le_of_ble_eq_true rfl) ⟨Nat.le_of_eq (Nat.zero_add _), Nat.le_of_eq (Nat.zero_add _)⟩ ?_
      refine pX11_within ?_
      refine mw_if_ne (pc' := 28) (tgt := 30) dX11_wayIn_25 rfl (by decide) (fun c14 => ?_) (fun c14 => ?_)
      · replace K := K.1 c14
        refine mw_aload_n (pc' := 31) dX11_wayIn_30 rfl rfl ?_
        refine mw_getR (pc' := 34) dX11_wayIn_31 rfl flX11_38 rfl (skT_8 hS) ?_
        rw [skR_8_4 hS]
        refine mw_aload_n (pc' := 35) dX11_wayIn_34 rfl rfl ?_
        refine mw_getR (pc' := 38) dX11_wayIn_35 rfl flX11_26 rfl (skT_8 hS) ?_
        rw [skR_8_2 hS]
        refine mw_aload_n (pc' := 39) dX11_wayIn_38 rfl rfl ?_
        refine mw_getI (pc' := 42) dX11_wayIn_39 rfl flX11_56 rfl (skT_8 hS) ?_
        refine mw_callV (pc' := 45) (b' := (0, 0)) (b1 := b) (av := [.inr (some 28), .inl (mI h 8 7)]) (rest := []) dX11_wayIn_42 rfl lkX11_208 rfl rfl (Nat.le_of_ble_eq_true rfl) ⟨Nat.le_of_eq (Nat.zero_add _), Nat.le_of_eq (Nat.zero_add _)⟩ (skT_33 hS) ?_
        refine mC_mono (fun r h1 hr => ?_) K
        obtain ⟨rfl, hS, K⟩ := hr
        show mW _ _ _ _ _ _ [] _ _
        refine mw_aload_n (pc' := 46) dX11_wayIn_45 rfl rfl ?_
        refine mw_getR (pc' := 49) dX11_wayIn_46 rfl flX11_38 rfl (skT_8 hS) ?_
        rw [skR_8_4 hS]
        refine mw_iload_n (pc' := 50) dX11_wayIn_49 rfl rfl ?_
        refine mw_iload_n (pc' := 51) dX11_wayIn_50 rfl rfl ?_
        refine mw_callV (pc' := 54) (b' := (0, 0)) (b1 := b) (av := [.inl v1, .inl v2]) (rest := []) dX11_wayIn_51 rfl lkX11_222 rfl rfl (Nat.le_of_ble_eq_true rfl) ⟨Nat.le_of_eq (Nat.zero_add _), Nat.le_of_eq (Nat.zero_add _)⟩ (skT_33 hS) ?_
        refine mC_mono (fun r h2 hr => ?_) K
        obtain ⟨x3, rfl, hS, K⟩ := hr
        show mW _ _ _ _ _ _ [.inl x3] _ _
        refine mw_if_eq (pc' := 57) (tgt := 70) dX11_wayIn_54 rfl (by decide) (fun c13 => ?_) (fun c13 => ?_)
        · replace K := K.1 c13
          refine mw_bipush (pc' := 72) (v := (-2)) dX11_wayIn_70 rfl (by decide) ?_
          exact mw_iret dX11_wayIn_72 rfl rfl K
        · replace K := K.2 c13
          refine mw_aload_n (pc' := 58) dX11_wayIn_57 rfl rfl ?_
          refine mw_getR (pc' := 61) dX11_wayIn_58 rfl flX11_38 rfl (skT_8 hS) ?_
          rw [skR_8_4 hS]
          refine mw_iload_n (pc' := 62) dX11_wayIn_61 rfl rfl ?_
          refine mw_iload (pc' := 64) dX11_wayIn_62 rfl rfl ?_
          refine mw_callV (pc' := 67) (b' := (0, 0)) (b1 := b) (av := [.inl v3, .inl v4]) (rest := []) dX11_wayIn_64 rfl lkX11_222 rfl rfl (Nat.le_of_ble_eq_true rfl) ⟨Nat.le_of_eq (Nat.zero_add _), Nat.le_of_eq (Nat.zero_add _)⟩ (skT_33 hS) ?_
          refine mC_mono (fun r h4 hr => ?_) K
          obtain ⟨x5, rfl, hS, K⟩ := hr
          show mW _ _ _ _ _ _ [.inl x5] _ _
          refine mw_if_ne (pc' := 70) (tgt := 73) dX11_wayIn_67 rfl (by decide) (fun c12 => ?_) (fun c12 => ?_)
          · replace K := K.1 c12
            refine mw_aload_n (pc' := 74) dX11_wayIn_73 rfl rfl ?_
            refine mw_getR (pc' := 77) dX11_wayIn_74 rfl flX11_45 rfl (skT_8 hS) ?_
            rw [skR_8_5 hS]
            refine mw_aload_n (pc' := 78) dX11_wayIn_77 rfl rfl ?_
            refine mw_getR (pc' := 81) dX11_wayIn_78 rfl flX11_38 rfl (skT_8 hS) ?_
            rw [skR_8_4 hS]
            refine mw_getR (pc' := 84) dX11_wayIn_81 rfl flX11_256 rfl (skT_33 hS) ?_
            rw [skR_33_4 hS]
            refine mw_iload_n (pc' := 85) dX11_wayIn_84 rfl rfl ?_
            refine mw_bipush (pc' := 87) (v := 32) dX11_wayIn_85 rfl (by decide) ?_
            refine mw_imul (pc' := 88) dX11_wayIn_87 rfl ?_
            refine mw_iload_n (pc' := 89) dX11_wayIn_88 rfl rfl ?_
            refine mw_iadd (pc' := 90) dX11_wayIn_89 rfl ?_
            refine mw_iload (pc' := 92) dX11_wayIn_90 rfl rfl ?_
            refine mw_bipush (pc' := 94) (v := 32) dX11_wayIn_92 rfl (by decide) ?_
            refine mw_imul (pc' := 95) dX11_wayIn_94 rfl ?_
            refine mw_iload_n (pc' := 96) dX11_wayIn_95 rfl rfl ?_
            refine mw_iadd (pc' := 97) dX11_wayIn_96 rfl ?_
            refine mw_aload_n (pc' := 98) dX11_wayIn_97 rfl rfl ?_
            refine mw_getI (pc' := 101) dX11_wayIn_98 rfl flX11_56 rfl (skT_8 hS) ?_
            refine mw_callV (pc' := 104) (b' := (0, 0)) (b1 := b) (av := [.inr (some 36), .inl ((v2 * 32) + v1), .inl ((v4 * 32) + v3), .inl (mI h4 8 7)]) (rest := []) dX11_wayIn_101 rfl lkX11_259 rfl rfl (Nat.le_of_ble_eq_true rfl) ⟨Nat.le_of_eq (Nat.zero_add _), Nat.le_of_eq (Nat.zero_add _)⟩ (skT_38 hS) ?_
            refine mC_mono (fun r h6 hr => ?_) K
            obtain ⟨rfl, hS, K⟩ := hr
            show mW _ _ _ _ _ _ [] _ _
            refine mw_aload_n (pc' := 105) dX11_wayIn_104 rfl rfl ?_
            refine mw_getR (pc' := 108) dX11_wayIn_105 rfl flX11_45 rfl (skT_8 hS) ?_
            rw [skR_8_5 hS]
            refine mw_getI (pc' := 111) dX11_wayIn_108 rfl flX11_263 rfl (skT_38 hS) ?_
            refine mw_if_ne (pc' := 114) (tgt := 117) dX11_wayIn_111 rfl (by decide) (fun c11 => ?_) (fun c11 => ?_)
            · replace K := K.1 c11
              refine mw_iload (pc' := 119) dX11_wayIn_117 rfl rfl ?_
              refine mw_iconst (pc' := 120) (v := (-1)) dX11_wayIn_119 rfl (by decide) ?_
              refine mw_icmp_ne (pc' := 123) (tgt := 131) dX11_wayIn_120 rfl (by decide) (fun c10 => ?_) (fun c10 => ?_)
              · replace K := K.1 c10
                refine mw_iload (pc' := 133) dX11_wayIn_131 rfl rfl ?_
                refine mw_bipush (pc' := 135) (v := 100) dX11_wayIn_133 rfl (by decide) ?_
                refine mw_icmp_ne (pc' := 138) (tgt := 146) dX11_wayIn_135 rfl (by decide) (fun c9 => ?_) (fun c9 => ?_)
                · replace K := K.1 c9
                  refine mw_iload (pc' := 148) dX11_wayIn_146 rfl rfl ?_
                  refine mw_aload_n (pc' := 149) dX11_wayIn_148 rfl rfl ?_
                  refine mw_getR (pc' := 152) dX11_wayIn_149 rfl flX11_45 rfl (skT_8 hS) ?_
                  rw [skR_8_5 hS]
                  refine mw_getI (pc' := 155) dX11_wayIn_152 rfl flX11_270 rfl (skT_38 hS) ?_
                  refine mw_icmp_ge (pc' := 158) (tgt := 171) dX11_wayIn_155 rfl (by decide) (fun c8 => ?_) (fun c8 => ?_)
                  · replace K := K.1 c8
                    refine mw_iconst (pc' := 172) (v := (-1)) dX11_wayIn_171 rfl (by decide) ?_
                    exact mw_iret dX11_wayIn_172 rfl rfl K
                  · replace K := K.2 c8
                    refine mw_aload_n (pc' := 159) dX11_wayIn_158 rfl rfl ?_
                    refine mw_getR (pc' := 162) dX11_wayIn_159 rfl flX11_45 rfl (skT_8 hS) ?_
                    rw [skR_8_5 hS]
                    refine mw_getR (pc' := 165) dX11_wayIn_162 rfl flX11_273 rfl (skT_38 hS) ?_
                    rw [skR_38_1 hS]
                    refine mw_iload (pc' := 167) dX11_wayIn_165 rfl rfl ?_
                    obtain ⟨o7, K⟩ := K
                    refine mw_ialdL (pc' := 168) dX11_wayIn_167 rfl (skT_40 hS) (skL_40 hS) o7 ?_
                    refine mw_goto (tgt := 172) dX11_wayIn_168 (by decide) ?_
                    exact mw_iret dX11_wayIn_172 rfl rfl K
                · replace K := K.2 c9
                  refine mw_aload_n (pc' := 139) dX11_wayIn_138 rfl rfl ?_
                  refine mw_getR (pc' := 142) dX11_wayIn_139 rfl flX11_45 rfl (skT_8 hS) ?_
                  rw [skR_8_5 hS]
                  refine mw_getI (pc' := 145) dX11_wayIn_142 rfl flX11_270 rfl (skT_38 hS) ?_
                  exact mw_iret dX11_wayIn_145 rfl rfl K
              · replace K := K.2 c10
                refine mw_aload_n (pc' := 124) dX11_wayIn_123 rfl rfl ?_
                refine mw_getR (pc' := 127) dX11_wayIn_124 rfl flX11_45 rfl (skT_8 hS) ?_
                rw [skR_8_5 hS]
                refine mw_getI (pc' := 130) dX11_wayIn_127 rfl flX11_267 rfl (skT_38 hS) ?_
                exact mw_iret dX11_wayIn_130 rfl rfl K
            · replace K := K.2 c11
              refine mw_bipush (pc' := 116) (v := (-2)) dX11_wayIn_114 rfl (by decide) ?_
              exact mw_iret dX11_wayIn_116 rfl rfl K
          · replace K := K.2 c12
            refine mw_bipush (pc' := 72) (v := (-2)) dX11_wayIn_70 rfl (by decide) ?_
            exact mw_iret dX11_wayIn_72 rfl rfl K
      · replace K := K.2 c14
        refine mw_iconst (pc' := 29) (v := (-1)) dX11_wayIn_28 rfl (by decide) ?_
        exact mw_iret dX11_wayIn_29 rfl rfl K

set_option maxRecDepth 100000 in
set_option maxHeartbeats 4000000 in
theorem qX11_pool {G : mG} {d : Nat} {b : Nat × Nat} {h : mH} {Q : Option mV → mH → Prop} (v1 : Int32) (v2 : Int32) (v3 : Int32) (hS : mSk h)
    (K : (((f_X11_inGrid v1 v2) = 0 → Q (some (.inl (-1))) h) ∧ (¬ (f_X11_inGrid v1 v2) = 0 → ((¬ (f_X11_within v3 0 2) = 0 → mC G kX0_survey (d + 6) (0, 0) [.inr (some 33), .inr (some 28), .inl (mI h 8 7)] h (fun r h1 => r = none ∧ mSk h1 ∧ ((¬ (mI h1 33 2) = 0 → mC G kX0_fillPool (d + 6) (0, 0) [.inr (some 33), .inl v1, .inl v2] h1 (fun r h2 => r = none ∧ mSk h2 ∧ ((¬ v3 = 0 → ∀ w3 : Int32, w3 = (if ¬ v3 = 2 then 0 else 1) → mC G kX0_wallCells (d + 6) (0, 0) [.inr (some 33), .inl w3] h2 (fun r h4 => ∃ x5, r = some (.inl x5) ∧ mSk h4 ∧ Q (some (.inl x5)) h4)) ∧ (v3 = 0 → mC G kX11_bitsIn (d + 6) (0, 0) [.inr (some 37), .inl 0] h2 (fun r h8 => ∃ x9, r = some (.inl x9) ∧ mSk h8 ∧ Q (some (.inl x9)) h8))))) ∧ ((mI h1 33 2) = 0 → Q (some (.inl (-2))) h1)))) ∧ ((f_X11_within v3 0 2) = 0 → Q (some (.inl (-1))) h))))) : mC G kX11_pool (d + 7) b [.inr (some 8), .inl v1, .inl v2, .inl v3] h Q := by
  refine mC_in rfl (Nat.le_of_ble_eq_true rfl) ?_
  show mW _ _ _ _ _ [some (.inr (some 8)), some (.inl v1), some (.inl v2), some (.inl v3)] _ _ _
  refine mw_iload_n (pc' := 1) dX11_pool_0 rfl rfl ?_
  refine mw_iload_n (pc' := 2) dX11_pool_1 rfl rfl ?_
  refine mw_callS (pc' := 5) (b' := (0, 0)) (b1 := b) (av := [.inl v1, .inl v2]) (rest := []) dX11_pool_2 rfl lkX11_132 rfl rfl (Nat.le_of_ble_eq_true rfl) ⟨Nat.le_of_eq (Nat.zero_add _), Nat.le_of_eq (Nat.zero_add _)⟩ ?_
  refine pX11_inGrid ?_
  refine mw_if_eq (pc' := 8) (tgt := 17) dX11_pool_5 rfl (by decide) (fun c13 => ?_) (fun c13 => ?_)
  · replace K := K.1 c13
    refine mw_iconst (pc' := 18) (v := (-1)) dX11_pool_17 rfl (by decide) ?_
    exact mw_iret dX11_pool_18 rfl rfl K
  · replace K := K.2 c13
    refine mw_iload_n (pc' := 9) dX11_pool_8 rfl rfl ?_
    refine mw_iconst (pc' := 10) (v := 0) dX11_pool_9 rfl (by decide) ?_
    refine mw_iconst (pc' := 11) (v := 2) dX11_pool_10 rfl (by decide) ?_
    refine mw_callS (pc' := 14) (b' := (0, 0)) (b1 := b) (av := [.inl v3, .inl 0, .inl 2]) (rest := []) dX11_pool_11 rfl lkX11_67 rfl rfl (Nat.le_of_ble_eq_true rfl) ⟨Nat.le_of_eq (Nat.zero_add _), Nat.le_of_eq (Nat.zero_add _)⟩ ?_
    refine pX11_within ?_
    refine mw_if_ne (pc' := 17) (tgt := 19) dX11_pool_14 rfl (by decide) (fun c12 => ?_) (fun c12 => ?_)
    · replace K := K.1 c12
      refine mw_aload_n (pc' := 20) dX11_pool_19 rfl rfl ?_
      refine mw_getR (pc' := 23) dX11_pool_20 rfl flX11_38 rfl (skT_8 hS) ?_
      rw [skR_8_4 hS]
      refine mw_aload_n (pc' := 24) dX11_pool_23 rfl rfl ?_
      refine mw_getR (pc' := 27) dX11_pool_24 rfl flX11_26 rfl (skT_8 hS) ?_
      rw [skR_8_2 hS]
      refine mw_aload_n (pc' := 28) dX11_pool_27 rfl rfl ?_
      refine mw_getI (pc' := 31) dX11_pool_28 rfl flX11_56 rfl (skT_8 hS) ?_
      refine mw_callV (pc' := 34) (b' := (0, 0)) (b1 := b) (av := [.inr (some 28), .inl (mI h 8 7)]) (rest := []) dX11_pool_31 rfl lkX11_208 rfl rfl (Nat.le_of_ble_eq_true rfl) ⟨Nat.le_of_eq (Nat.zero_add _), Nat.le_of_eq (Nat.zero_add _)⟩ (skT_33 hS) ?_
      refine mC_mono (fun r h1 hr => ?_) K
      obtain ⟨rfl, hS, K⟩ := hr
      show mW _ _ _ _ _ _ [] _ _
      refine mw_aload_n (pc' := 35) dX11_pool_34 rfl rfl ?_
      refine mw_getR (pc' := 38) dX11_pool_35 rfl flX11_38 rfl (skT_8 hS) ?_
      rw [skR_8_4 hS]
      refine mw_getI (pc' := 41) dX11_pool_38 rfl flX11_212 rfl (skT_33 hS) ?_
      refine mw_if_ne (pc' := 44) (tgt := 47) dX11_pool_41 rfl (by decide) (fun c11 => ?_) (fun c11 => ?_)
      · replace K := K.1 c11
        refine mw_aload_n (pc' := 48) dX11_pool_47 rfl rfl ?_
        refine mw_getR (pc' := 51) dX11_pool_48 rfl flX11_38 rfl (skT_8 hS) ?_
        rw [skR_8_4 hS]
        refine mw_iload_n (pc' := 52) dX11_pool_51 rfl rfl ?_
        refine mw_iload_n (pc' := 53) dX11_pool_52 rfl rfl ?_
        refine mw_callV (pc' := 56) (b' := (0, 0)) (b1 := b) (av := [.inl v1, .inl v2]) (rest := []) dX11_pool_53 rfl lkX11_276 rfl rfl (Nat.le_of_ble_eq_true rfl) ⟨Nat.le_of_eq (Nat.zero_add _), Nat.le_of_eq (Nat.zero_add _)⟩ (skT_33 hS) ?_
        refine mC_mono (fun r h2 hr => ?_) K
        obtain ⟨rfl, hS, K⟩ := hr
        show mW _ _ _ _ _ _ [] _ _
        refine mw_iload_n (pc' := 57) dX11_pool_56 rfl rfl ?_
        refine mw_if_ne (pc' := 60) (tgt := 72) dX11_pool_57 rfl (by decide) (fun c10 => ?_) (fun c10 => ?_)
        · replace K := K.1 c10
          refine mw_aload_n (pc' := 73) dX11_pool_72 rfl rfl ?_
          refine mw_getR (pc' := 76) dX11_pool_73 rfl flX11_38 rfl (skT_8 hS) ?_
          rw [skR_8_4 hS]
          refine mw_iload_n (pc' := 77) dX11_pool_76 rfl rfl ?_
          refine mw_iconst (pc' := 78) (v := 2) dX11_pool_77 rfl (by decide) ?_
          have J6 : ∀ w3 : Int32, w3 = (if ¬ v3 = 2 then 0 else 1) → mW G kX11_pool (d + 7) b 86 [some (.inr (some 8)), some (.inl v1), some (.inl v2), some (.inl v3)] ([.inl w3, .inr (some 33)]) h2 Q := by
            intro w3 ew3
            replace K := K w3 ew3
            refine mw_callV (pc' := 89) (b' := (0, 0)) (b1 := b) (av := [.inl w3]) (rest := []) dX11_pool_86 rfl lkX11_282 rfl rfl (Nat.le_of_ble_eq_true rfl) ⟨Nat.le_of_eq (Nat.zero_add _), Nat.le_of_eq (Nat.zero_add _)⟩ (skT_33 hS) ?_
            refine mC_mono (fun r h4 hr => ?_) K
            obtain ⟨x5, rfl, hS, K⟩ := hr
            show mW _ _ _ _ _ _ [.inl x5] _ _
            exact mw_iret dX11_pool_89 rfl rfl K
          refine mw_icmp_ne (pc' := 81) (tgt := 85) dX11_pool_78 rfl (by decide) (fun c7 => ?_) (fun c7 => ?_)
          · refine mw_iconst (pc' := 86) (v := 0) dX11_pool_85 rfl (by decide) ?_
            exact J6 _ (by rw [if_pos c7])
          · refine mw_iconst (pc' := 82) (v := 1) dX11_pool_81 rfl (by decide) ?_
            refine mw_goto (tgt := 86) dX11_pool_82 (by decide) ?_
            exact J6 _ (by rw [if_neg (fun z => z c7)])
        · replace K := K.2 c10
          refine mw_aload_n (pc' := 61) dX11_pool_60 rfl rfl ?_
          refine mw_getR (pc' := 64) dX11_pool_61 rfl flX11_38 rfl (skT_8 hS) ?_
          rw [skR_8_4 hS]
          refine mw_getR (pc' := 67) dX11_pool_64 rfl flX11_279 rfl (skT_33 hS) ?_
          rw [skR_33_5 hS]
          refine mw_iconst (pc' := 68) (v := 0) dX11_pool_67 rfl (by decide) ?_
          refine mw_callS (pc' := 71) (b' := (0, 0)) (b1 := b) (av := [.inr (some 37), .inl 0]) (rest := []) dX11_pool_68 rfl lkX11_204 rfl rfl (Nat.le_of_ble_eq_true rfl) ⟨Nat.le_of_eq (Nat.zero_add _), Nat.le_of_eq (Nat.zero_add _)⟩ ?_
          refine mC_mono (fun r h8 hr => ?_) K
          obtain ⟨x9, rfl, hS, K⟩ := hr
          show mW _ _ _ _ _ _ [.inl x9] _ _
          exact mw_iret dX11_pool_71 rfl rfl K
      · replace K := K.2 c11
        refine mw_bipush (pc' := 46) (v := (-2)) dX11_pool_44 rfl (by decide) ?_
        exact mw_iret dX11_pool_46 rfl rfl K
    · replace K := K.2 c12
      refine mw_iconst (pc' := 18) (v := (-1)) dX11_pool_17 rfl (by decide) ?_
      exact mw_iret dX11_pool_18 rfl rfl K

set_option maxRecDepth 100000 in
set_option maxHeartbeats 4000000 in
theorem qX11_check {G : mG} {d : Nat} {b : Nat × Nat} {h : mH} {Q : Option mV → mH → Prop} (v1 : Int32) (v2 : Int32) (hS : mSk h)
    (K : mC G kX0_get (d + 1) (0, 0) [.inr (some 33), .inl v1] h (fun r h1 => ∃ z2, r = some (.inr z2) ∧ mSk h1 ∧ ((z2 = none → Q (some (.inl (-2))) h1) ∧ (∀ y3, z2 = some y3 → mT h1 y3 = 2 ∧ (((f_X11_within v2 0 32) = 0 → Q (some (.inl (-2))) h1) ∧ (¬ (f_X11_within v2 0 32) = 0 → (((4 * v2) ≤ (mI h1 9 1) → mW G kX11_check (d + 2) b 42 [some (.inr (some 8)), none, some (.inl v2), some (.inr (some y3)), some (.inl 0)] [] h1 Q) ∧ (¬ ((4 * v2) ≤ (mI h1 9 1)) → Q (some (.inl (-2))) h1)))))))) : mC G kX11_check (d + 2) b [.inr (some 8), .inl v1, .inl v2] h Q := by
  refine mC_in rfl (Nat.le_of_ble_eq_true rfl) ?_
  show mW _ _ _ _ _ [some (.inr (some 8)), some (.inl v1), some (.inl v2), none, none] _ _ _
  refine mw_aload_n (pc' := 1) dX11_check_0 rfl rfl ?_
  refine mw_getR (pc' := 4) dX11_check_1 rfl flX11_38 rfl (skT_8 hS) ?_
  rw [skR_8_4 hS]
  refine mw_iload_n (pc' := 5) dX11_check_4 rfl rfl ?_
  refine mw_callV (pc' := 8) (b' := (0, 0)) (b1 := b) (av := [.inl v1]) (rest := []) dX11_check_5 rfl lkX11_117 rfl rfl (Nat.le_of_ble_eq_true rfl) ⟨Nat.le_of_eq (Nat.zero_add _), Nat.le_of_eq (Nat.zero_add _)⟩ (skT_33 hS) ?_
  refine mC_mono (fun r h1 hr => ?_) K
  obtain ⟨z2, rfl, hS, K⟩ := hr
  show mW _ _ _ _ _ _ [.inr z2] _ _
  refine mw_astore_n (pc' := 9) dX11_check_8 rfl (by decide) ?_
  show mW _ _ _ _ _ [some (.inr (some 8)), some (.inl v1), some (.inl v2), some (.inr z2), none] _ _ _
  refine mw_aload_n (pc' := 10) dX11_check_9 rfl rfl ?_
  refine mw_ifnull (pc' := 13) (tgt := 36) dX11_check_10 rfl (by decide) (fun c6 => ?_) (fun y3 c6 => ?_)
  · replace K := K.1 c6
    try rw [c6]
    refine mw_bipush (pc' := 38) (v := (-2)) dX11_check_36 rfl (by decide) ?_
    exact mw_iret dX11_check_38 rfl rfl K
  · obtain ⟨ty3, K⟩ := K.2 y3 c6
    try rw [c6]
    refine mw_iload_n (pc' := 14) dX11_check_13 rfl rfl ?_
    refine mw_iconst (pc' := 15) (v := 0) dX11_check_14 rfl (by decide) ?_
    refine mw_bipush (pc' := 17) (v := 32) dX11_check_15 rfl (by decide) ?_
    refine mw_callS (pc' := 20) (b' := (0, 0)) (b1 := b) (av := [.inl v2, .inl 0, .inl 32]) (rest := []) dX11_check_17 rfl lkX11_67 rfl rfl (Nat.le_of_ble_eq_true rfl) ⟨Nat.le_of_eq (Nat.zero_add _), Nat.le_of_eq (Nat.zero_add _)⟩ ?_
    refine pX11_within ?_
    refine mw_if_eq (pc' := 23) (tgt := 36) dX11_check_20 rfl (by decide) (fun c5 => ?_) (fun c5 => ?_)
    · replace K := K.1 c5
      refine mw_bipush (pc' := 38) (v := (-2)) dX11_check_36 rfl (by decide) ?_
      exact mw_iret dX11_check_38 rfl rfl K
    · replace K := K.2 c5
      refine mw_aload_n (pc' := 24) dX11_check_23 rfl rfl ?_
      refine mw_getR (pc' := 27) dX11_check_24 rfl flX11_12 rfl (skT_8 hS) ?_
      rw [skR_8_0 hS]
      refine mw_getI (pc' := 30) dX11_check_27 rfl flX11_60 rfl (skT_9 hS) ?_
      refine mw_iconst (pc' := 31) (v := 4) dX11_check_30 rfl (by decide) ?_
      refine mw_iload_n (pc' := 32) dX11_check_31 rfl rfl ?_
      refine mw_imul (pc' := 33) dX11_check_32 rfl ?_
      refine mw_icmp_ge (pc' := 36) (tgt := 39) dX11_check_33 rfl (by decide) (fun c4 => ?_) (fun c4 => ?_)
      · replace K := K.1 c4
        refine mw_iconst (pc' := 40) (v := 0) dX11_check_39 rfl (by decide) ?_
        refine mw_istore (pc' := 42) dX11_check_40 rfl (by decide) ?_
        show mW _ _ _ _ _ [some (.inr (some 8)), some (.inl v1), some (.inl v2), some (.inr (some y3)), some (.inl 0)] _ _ _
        refine mw_weak (ls' := [some (.inr (some 8)), none, some (.inl v2), some (.inr (some y3)), some (.inl 0)]) ?_ ?_
        · intro i v hv; match i, hv with
          | 0, hv => exact hv
          | 1, hv => cases hv
          | 2, hv => exact hv
          | 3, hv => exact hv
          | 4, hv => exact hv
          | n + 5, hv => cases hv
        exact K
      · replace K := K.2 c4
        refine mw_bipush (pc' := 38) (v := (-2)) dX11_check_36 rfl (by decide) ?_
        exact mw_iret dX11_check_38 rfl rfl K

set_option maxRecDepth 100000 in
set_option maxHeartbeats 4000000 in
theorem qX11_check_42 {G : mG} {d : Nat} {b : Nat × Nat} {h : mH} {Q : Option mV → mH → Prop} (v2 : Int32) (a3 : Nat) (v4 : Int32) (ta3 : mT h a3 = 2) (hS : mSk h)
    (K : ((v2 ≤ v4 → ∀ h1, h1 = mSI h 9 1 0 → ∀ w2 : Int32, w2 = (if ¬ v4 = 32 then v4 else (-1)) → Q (some (.inl w2)) h1) ∧ (¬ (v2 ≤ v4) → mC G kX9_number (d + 1) (0, 0) [.inr (some 9), .inl v4] h (fun r h5 => ∃ x6, r = some (.inl x6) ∧ mSk h5 ∧ mT h5 a3 = 2 ∧ vp_in v4 32 ∧ ((¬ x6 = (mI h5 (a3 + 1) v4.toNatClampNeg) → ∀ h8, h8 = mSI h5 9 1 0 → ∀ w9 : Int32, w9 = (if ¬ v4 = 32 then v4 else (-1)) → Q (some (.inl w9)) h8) ∧ (x6 = (mI h5 (a3 + 1) v4.toNatClampNeg) → mW G kX11_check (d + 2) b 42 [some (.inr (some 8)), none, some (.inl v2), some (.inr (some a3)), some (.inl (v4 + 1))] [] h5 Q)))))) : mW G kX11_check (d + 2) b 42 [some (.inr (some 8)), none, some (.inl v2), some (.inr (some a3)), some (.inl v4)] [] h Q := by
  refine mw_iload (pc' := 44) dX11_check_42 rfl rfl ?_
  refine mw_iload_n (pc' := 45) dX11_check_44 rfl rfl ?_
  refine mw_icmp_ge (pc' := 48) (tgt := 73) dX11_check_45 rfl (by decide) (fun c13 => ?_) (fun c13 => ?_)
  · replace K := K.1 c13
    refine mw_aload_n (pc' := 74) dX11_check_73 rfl rfl ?_
    refine mw_getR (pc' := 77) dX11_check_74 rfl flX11_12 rfl (skT_8 hS) ?_
    rw [skR_8_0 hS]
    refine mw_iconst (pc' := 78) (v := 0) dX11_check_77 rfl (by decide) ?_
    refine mw_putIK (pc' := 81) dX11_check_78 rfl flX11_60 rfl (Or.inl rfl) ⟨rfl, rfl⟩ (skT_9 hS) hS (fun h1 eh1 hS => ?_)
    replace K := K h1 eh1
    have ta3 : mT h1 a3 = 2 := by rw [eh1]; exact ta3
    refine mw_iload (pc' := 83) dX11_check_81 rfl rfl ?_
    refine mw_bipush (pc' := 85) (v := 32) dX11_check_83 rfl (by decide) ?_
    have J3 : ∀ w2 : Int32, w2 = (if ¬ v4 = 32 then v4 else (-1)) → mW G kX11_check (d + 2) b 94 [some (.inr (some 8)), none, some (.inl v2), some (.inr (some a3)), some (.inl v4)] ([.inl w2]) h1 Q := by
      intro w2 ew2
      replace K := K w2 ew2
      exact mw_iret dX11_check_94 rfl rfl K
    refine mw_icmp_ne (pc' := 88) (tgt := 92) dX11_check_85 rfl (by decide) (fun c4 => ?_) (fun c4 => ?_)
    · refine mw_iload (pc' := 94) dX11_check_92 rfl rfl ?_
      exact J3 _ (by rw [if_pos c4])
    · refine mw_iconst (pc' := 89) (v := (-1)) dX11_check_88 rfl (by decide) ?_
      refine mw_goto (tgt := 94) dX11_check_89 (by decide) ?_
      exact J3 _ (by rw [if_neg (fun z => z c4)])
  · replace K := K.2 c13
    refine mw_aload_n (pc' := 49) dX11_check_48 rfl rfl ?_
    refine mw_getR (pc' := 52) dX11_check_49 rfl flX11_12 rfl (skT_8 hS) ?_
    rw [skR_8_0 hS]
    refine mw_iload (pc' := 54) dX11_check_52 rfl rfl ?_
    refine mw_callV (pc' := 57) (b' := (0, 0)) (b1 := b) (av := [.inl v4]) (rest := []) dX11_check_54 rfl lkX11_286 rfl rfl (Nat.le_of_ble_eq_true rfl) ⟨Nat.le_of_eq (Nat.zero_add _), Nat.le_of_eq (Nat.zero_add _)⟩ (skT_9 hS) ?_
    refine mC_mono (fun r h5 hr => ?_) K
    obtain ⟨x6, rfl, hS, ta3, K⟩ := hr
    show mW _ _ _ _ _ _ [.inl x6] _ _
    refine mw_aload_n (pc' := 58) dX11_check_57 rfl rfl ?_
    refine mw_getR (pc' := 61) dX11_check_58 rfl flX11_289 rfl (ta3) ?_
    rw [skBR_1_5 hS ta3]
    refine mw_iload (pc' := 63) dX11_check_61 rfl rfl ?_
    obtain ⟨o7, K⟩ := K
    refine mw_ialdL (pc' := 64) dX11_check_63 rfl (skBT_1_1 hS ta3) (skBL_1_1 hS ta3) o7 ?_
    refine mw_icmp_ne (pc' := 67) (tgt := 73) dX11_check_64 rfl (by decide) (fun c12 => ?_) (fun c12 => ?_)
    · replace K := K.1 c12
      refine mw_aload_n (pc' := 74) dX11_check_73 rfl rfl ?_
      refine mw_getR (pc' := 77) dX11_check_74 rfl flX11_12 rfl (skT_8 hS) ?_
      rw [skR_8_0 hS]
      refine mw_iconst (pc' := 78) (v := 0) dX11_check_77 rfl (by decide) ?_
      refine mw_putIK (pc' := 81) dX11_check_78 rfl flX11_60 rfl (Or.inl rfl) ⟨rfl, rfl⟩ (skT_9 hS) hS (fun h8 eh8 hS => ?_)
      replace K := K h8 eh8
      have ta3 : mT h8 a3 = 2 := by rw [eh8]; exact ta3
      refine mw_iload (pc' := 83) dX11_check_81 rfl rfl ?_
      refine mw_bipush (pc' := 85) (v := 32) dX11_check_83 rfl (by decide) ?_
      have J10 : ∀ w9 : Int32, w9 = (if ¬ v4 = 32 then v4 else (-1)) → mW G kX11_check (d + 2) b 94 [some (.inr (some 8)), none, some (.inl v2), some (.inr (some a3)), some (.inl v4)] ([.inl w9]) h8 Q := by
        intro w9 ew9
        replace K := K w9 ew9
        exact mw_iret dX11_check_94 rfl rfl K
      refine mw_icmp_ne (pc' := 88) (tgt := 92) dX11_check_85 rfl (by decide) (fun c11 => ?_) (fun c11 => ?_)
      · refine mw_iload (pc' := 94) dX11_check_92 rfl rfl ?_
        exact J10 _ (by rw [if_pos c11])
      · refine mw_iconst (pc' := 89) (v := (-1)) dX11_check_88 rfl (by decide) ?_
        refine mw_goto (tgt := 94) dX11_check_89 (by decide) ?_
        exact J10 _ (by rw [if_neg (fun z => z c11)])
    · replace K := K.2 c12
      refine mw_iinc (pc' := 70) (v := v4 + 1) dX11_check_67 rfl (by decide) rfl rfl ?_
      show mW _ _ _ _ _ [some (.inr (some 8)), none, some (.inl v2), some (.inr (some a3)), some (.inl (v4 + 1))] _ _ _
      refine mw_goto (tgt := 42) dX11_check_70 (by decide) ?_
      exact K

set_option maxRecDepth 100000 in
set_option maxHeartbeats 4000000 in
theorem qX11_count {G : mG} {d : Nat} {b : Nat × Nat} {h : mH} {Q : Option mV → mH → Prop} (v1 : Int32) (hS : mSk h)
    (K : ((((v1).toInt < 0 ∨ 8 < (v1).toInt) → (((f_X11_within v1 10 17) = 0 → Q (some (.inl (-1))) h) ∧ (¬ (f_X11_within v1 10 17) = 0 → mC G kX0_get (d + 6) (0, 0) [.inr (some 33), .inl (v1 - 10)] h (fun r h2 => ∃ z3, r = some (.inr z3) ∧ mSk h2 ∧ ((z3 = none → Q (some (.inl (-1))) h2) ∧ (∀ y4, z3 = some y4 → mT h2 y4 = 2 ∧ Q (some (.inl (mI h2 y4 1))) h2)))))) ∧ (v1 = 0 → Q (some (.inl (mI h 33 1))) h) ∧ (v1 = 1 → Q (some (.inl (mI h 11 4))) h) ∧ (v1 = 2 → ∃ y7, mR h 11 5 = some y7 ∧ mT h y7 = 4 ∧ Q (some (.inl (mI h y7 5))) h) ∧ (v1 = 3 → Q (some (.inl (mI h 9 1))) h) ∧ (v1 = 4 → Q (some (.inl (mI h 28 1))) h) ∧ (v1 = 5 → mC G kX6_last (d + 6) (0, 0) [.inr (some 28)] h (fun r h8 => ∃ z9, r = some (.inr z9) ∧ mSk h8 ∧ ((z9 = none → Q (some (.inl (-1))) h8) ∧ (∀ y10, z9 = some y10 → mT h8 y10 = 6 ∧ Q (some (.inl (mI h8 y10 5))) h8)))) ∧ (v1 = 6 → Q (some (.inl (mI h 28 2))) h) ∧ (v1 = 7 → Q (some (.inl (mI h 41 3))) h) ∧ (v1 = 8 → mC G kX0_survey (d + 6) (0, 0) [.inr (some 33), .inr (some 28), .inl (mI h 8 7)] h (fun r h12 => r = none ∧ mSk h12 ∧ Q (some (.inl (mI h12 33 2))) h12)))) : mC G kX11_count (d + 7) b [.inr (some 8), .inl v1] h Q := by
  refine mC_in rfl (Nat.le_of_ble_eq_true rfl) ?_
  show mW _ _ _ _ _ [some (.inr (some 8)), some (.inl v1), none, none] _ _ _
  refine mw_iload_n (pc' := 1) dX11_count_0 rfl rfl ?_
  by_cases c1 : (v1).toInt < 0 ∨ 8 < (v1).toInt
  · replace K := K.1 c1
    refine mw_tableOut (tgt := 155) dX11_count_1 c1 (by decide) ?_
    refine mw_iload_n (pc' := 156) dX11_count_155 rfl rfl ?_
    refine mw_bipush (pc' := 158) (v := 10) dX11_count_156 rfl (by decide) ?_
    refine mw_bipush (pc' := 160) (v := 17) dX11_count_158 rfl (by decide) ?_
    refine mw_callS (pc' := 163) (b' := (0, 0)) (b1 := b) (av := [.inl v1, .inl 10, .inl 17]) (rest := []) dX11_count_160 rfl lkX11_67 rfl rfl (Nat.le_of_ble_eq_true rfl) ⟨Nat.le_of_eq (Nat.zero_add _), Nat.le_of_eq (Nat.zero_add _)⟩ ?_
    refine pX11_within ?_
    refine mw_if_eq (pc' := 166) (tgt := 180) dX11_count_163 rfl (by decide) (fun c6 => ?_) (fun c6 => ?_)
    · replace K := K.1 c6
      refine mw_null (pc' := 181) dX11_count_180 rfl ?_
      refine mw_astore_n (pc' := 182) dX11_count_181 rfl (by decide) ?_
      show mW _ _ _ _ _ [some (.inr (some 8)), some (.inl v1), none, some (.inr none)] _ _ _
      refine mw_aload_n (pc' := 183) dX11_count_182 rfl rfl ?_
      refine mw_ifnonnull (pc' := 186) (tgt := 190) dX11_count_183 rfl (by decide) (fun _ z => nomatch z) (fun _ => ?_)
      refine mw_iconst (pc' := 187) (v := (-1)) dX11_count_186 rfl (by decide) ?_
      refine mw_goto (tgt := 194) dX11_count_187 (by decide) ?_
      exact mw_iret dX11_count_194 rfl rfl K
    · replace K := K.2 c6
      refine mw_aload_n (pc' := 167) dX11_count_166 rfl rfl ?_
      refine mw_getR (pc' := 170) dX11_count_167 rfl flX11_38 rfl (skT_8 hS) ?_
      rw [skR_8_4 hS]
      refine mw_iload_n (pc' := 171) dX11_count_170 rfl rfl ?_
      refine mw_bipush (pc' := 173) (v := 10) dX11_count_171 rfl (by decide) ?_
      refine mw_isub (pc' := 174) dX11_count_173 rfl ?_
      refine mw_callV (pc' := 177) (b' := (0, 0)) (b1 := b) (av := [.inl (v1 - 10)]) (rest := []) dX11_count_174 rfl lkX11_117 rfl rfl (Nat.le_of_ble_eq_true rfl) ⟨Nat.le_of_eq (Nat.zero_add _), Nat.le_of_eq (Nat.zero_add _)⟩ (skT_33 hS) ?_
      refine mC_mono (fun r h2 hr => ?_) K
      obtain ⟨z3, rfl, hS, K⟩ := hr
      show mW _ _ _ _ _ _ [.inr z3] _ _
      refine mw_goto (tgt := 181) dX11_count_177 (by decide) ?_
      refine mw_astore_n (pc' := 182) dX11_count_181 rfl (by decide) ?_
      show mW _ _ _ _ _ [some (.inr (some 8)), some (.inl v1), none, some (.inr z3)] _ _ _
      refine mw_aload_n (pc' := 183) dX11_count_182 rfl rfl ?_
      refine mw_ifnonnull (pc' := 186) (tgt := 190) dX11_count_183 rfl (by decide) (fun y4 c5 => ?_) (fun c5 => ?_)
      · obtain ⟨ty4, K⟩ := K.2 y4 c5
        try rw [c5]
        refine mw_aload_n (pc' := 191) dX11_count_190 rfl rfl ?_
        refine mw_getI (pc' := 194) dX11_count_191 rfl flX11_121 rfl (ty4) ?_
        exact mw_iret dX11_count_194 rfl rfl K
      · replace K := K.1 c5
        try rw [c5]
        refine mw_iconst (pc' := 187) (v := (-1)) dX11_count_186 rfl (by decide) ?_
        refine mw_goto (tgt := 194) dX11_count_187 (by decide) ?_
        exact mw_iret dX11_count_194 rfl rfl K
  · replace K := K.2
    have hv : v1 = 0 ∨ v1 = 1 ∨ v1 = 2 ∨ v1 = 3 ∨ v1 = 4 ∨ v1 = 5 ∨ v1 = 6 ∨ v1 = 7 ∨ v1 = 8 := by
      rcases (show (v1).toInt = 0 ∨ (v1).toInt = 1 ∨ (v1).toInt = 2 ∨ (v1).toInt = 3 ∨ (v1).toInt = 4 ∨ (v1).toInt = 5 ∨ (v1).toInt = 6 ∨ (v1).toInt = 7 ∨ (v1).toInt = 8 by omega) with z | z | z | z | z | z | z | z | z
      · exact Or.inl (m_sw (z.trans (by decide)))
      · exact Or.inr (Or.inl (m_sw (z.trans (by decide))))
      · exact Or.inr (Or.inr (Or.inl (m_sw (z.trans (by decide)))))
      · exact Or.inr (Or.inr (Or.inr (Or.inl (m_sw (z.trans (by decide))))))
      · exact Or.inr (Or.inr (Or.inr (Or.inr (Or.inl (m_sw (z.trans (by decide)))))))
      · exact Or.inr (Or.inr (Or.inr (Or.inr (Or.inr (Or.inl (m_sw (z.trans (by decide))))))))
      · exact Or.inr (Or.inr (Or.inr (Or.inr (Or.inr (Or.inr (Or.inl (m_sw (z.trans (by decide)))))))))
      · exact Or.inr (Or.inr (Or.inr (Or.inr (Or.inr (Or.inr (Or.inr (Or.inl (m_sw (z.trans (by decide))))))))))
      · exact Or.inr (Or.inr (Or.inr (Or.inr (Or.inr (Or.inr (Or.inr (Or.inr (m_sw (z.trans (by decide))))))))))
    rcases hv with hv | hv | hv | hv | hv | hv | hv | hv | hv
    · replace K := K.1 hv
      refine mw_tableIn (off := 51) (tgt := 52) dX11_count_1 (by rw [hv]; decide) (by rw [hv]; decide) (by rw [hv]; rfl) (by decide) ?_
      refine mw_aload_n (pc' := 53) dX11_count_52 rfl rfl ?_
      refine mw_getR (pc' := 56) dX11_count_53 rfl flX11_38 rfl (skT_8 hS) ?_
      rw [skR_8_4 hS]
      refine mw_getI (pc' := 59) dX11_count_56 rfl flX11_71 rfl (skT_33 hS) ?_
      exact mw_iret dX11_count_59 rfl rfl K
    · replace K := K.2.1 hv
      refine mw_tableIn (off := 59) (tgt := 60) dX11_count_1 (by rw [hv]; decide) (by rw [hv]; decide) (by rw [hv]; rfl) (by decide) ?_
      refine mw_aload_n (pc' := 61) dX11_count_60 rfl rfl ?_
      refine mw_getR (pc' := 64) dX11_count_61 rfl flX11_34 rfl (skT_8 hS) ?_
      rw [skR_8_3 hS]
      refine mw_getI (pc' := 67) dX11_count_64 rfl flX11_147 rfl (skT_11 hS) ?_
      exact mw_iret dX11_count_67 rfl rfl K
    · replace K := K.2.2.1 hv
      refine mw_tableIn (off := 67) (tgt := 68) dX11_count_1 (by rw [hv]; decide) (by rw [hv]; decide) (by rw [hv]; rfl) (by decide) ?_
      refine mw_aload_n (pc' := 69) dX11_count_68 rfl rfl ?_
      refine mw_getR (pc' := 72) dX11_count_69 rfl flX11_34 rfl (skT_8 hS) ?_
      rw [skR_8_3 hS]
      refine mw_getR (pc' := 75) dX11_count_72 rfl flX11_292 rfl (skT_11 hS) ?_
      obtain ⟨y7, ey7, ty7, K⟩ := K
      rw [ey7]
      refine mw_getI (pc' := 78) dX11_count_75 rfl flX11_295 rfl (ty7) ?_
      exact mw_iret dX11_count_78 rfl rfl K
    · replace K := K.2.2.2.1 hv
      refine mw_tableIn (off := 78) (tgt := 79) dX11_count_1 (by rw [hv]; decide) (by rw [hv]; decide) (by rw [hv]; rfl) (by decide) ?_
      refine mw_aload_n (pc' := 80) dX11_count_79 rfl rfl ?_
      refine mw_getR (pc' := 83) dX11_count_80 rfl flX11_12 rfl (skT_8 hS) ?_
      rw [skR_8_0 hS]
      refine mw_getI (pc' := 86) dX11_count_83 rfl flX11_60 rfl (skT_9 hS) ?_
      exact mw_iret dX11_count_86 rfl rfl K
    · replace K := K.2.2.2.2.1 hv
      refine mw_tableIn (off := 86) (tgt := 87) dX11_count_1 (by rw [hv]; decide) (by rw [hv]; decide) (by rw [hv]; rfl) (by decide) ?_
      refine mw_aload_n (pc' := 88) dX11_count_87 rfl rfl ?_
      refine mw_getR (pc' := 91) dX11_count_88 rfl flX11_26 rfl (skT_8 hS) ?_
      rw [skR_8_2 hS]
      refine mw_getI (pc' := 94) dX11_count_91 rfl flX11_164 rfl (skT_28 hS) ?_
      exact mw_iret dX11_count_94 rfl rfl K
    · replace K := K.2.2.2.2.2.1 hv
      refine mw_tableIn (off := 94) (tgt := 95) dX11_count_1 (by rw [hv]; decide) (by rw [hv]; decide) (by rw [hv]; rfl) (by decide) ?_
      refine mw_aload_n (pc' := 96) dX11_count_95 rfl rfl ?_
      refine mw_getR (pc' := 99) dX11_count_96 rfl flX11_26 rfl (skT_8 hS) ?_
      rw [skR_8_2 hS]
      refine mw_callV (pc' := 102) (b' := (0, 0)) (b1 := b) (av := []) (rest := []) dX11_count_99 rfl lkX11_300 rfl rfl (Nat.le_of_ble_eq_true rfl) ⟨Nat.le_of_eq (Nat.zero_add _), Nat.le_of_eq (Nat.zero_add _)⟩ (skT_28 hS) ?_
      refine mC_mono (fun r h8 hr => ?_) K
      obtain ⟨z9, rfl, hS, K⟩ := hr
      show mW _ _ _ _ _ _ [.inr z9] _ _
      refine mw_astore_n (pc' := 103) dX11_count_102 rfl (by decide) ?_
      show mW _ _ _ _ _ [some (.inr (some 8)), some (.inl v1), some (.inr z9), none] _ _ _
      refine mw_aload_n (pc' := 104) dX11_count_103 rfl rfl ?_
      refine mw_ifnonnull (pc' := 107) (tgt := 111) dX11_count_104 rfl (by decide) (fun y10 c11 => ?_) (fun c11 => ?_)
      · obtain ⟨ty10, K⟩ := K.2 y10 c11
        try rw [c11]
        refine mw_aload_n (pc' := 112) dX11_count_111 rfl rfl ?_
        refine mw_getI (pc' := 115) dX11_count_112 rfl flX11_304 rfl (ty10) ?_
        exact mw_iret dX11_count_115 rfl rfl K
      · replace K := K.1 c11
        try rw [c11]
        refine mw_iconst (pc' := 108) (v := (-1)) dX11_count_107 rfl (by decide) ?_
        refine mw_goto (tgt := 115) dX11_count_108 (by decide) ?_
        exact mw_iret dX11_count_115 rfl rfl K
    · replace K := K.2.2.2.2.2.2.1 hv
      refine mw_tableIn (off := 115) (tgt := 116) dX11_count_1 (by rw [hv]; decide) (by rw [hv]; decide) (by rw [hv]; rfl) (by decide) ?_
      refine mw_aload_n (pc' := 117) dX11_count_116 rfl rfl ?_
      refine mw_getR (pc' := 120) dX11_count_117 rfl flX11_26 rfl (skT_8 hS) ?_
      rw [skR_8_2 hS]
      refine mw_getI (pc' := 123) dX11_count_120 rfl flX11_177 rfl (skT_28 hS) ?_
      exact mw_iret dX11_count_123 rfl rfl K
    · replace K := K.2.2.2.2.2.2.2.1 hv
      refine mw_tableIn (off := 123) (tgt := 124) dX11_count_1 (by rw [hv]; decide) (by rw [hv]; decide) (by rw [hv]; rfl) (by decide) ?_
      refine mw_aload_n (pc' := 125) dX11_count_124 rfl rfl ?_
      refine mw_getR (pc' := 128) dX11_count_125 rfl flX11_52 rfl (skT_8 hS) ?_
      rw [skR_8_6 hS]
      refine mw_getI (pc' := 131) dX11_count_128 rfl flX11_228 rfl (skT_41 hS) ?_
      exact mw_iret dX11_count_131 rfl rfl K
    · replace K := K.2.2.2.2.2.2.2.2 hv
      refine mw_tableIn (off := 131) (tgt := 132) dX11_count_1 (by rw [hv]; decide) (by rw [hv]; decide) (by rw [hv]; rfl) (by decide) ?_
      refine mw_aload_n (pc' := 133) dX11_count_132 rfl rfl ?_
      refine mw_getR (pc' := 136) dX11_count_133 rfl flX11_38 rfl (skT_8 hS) ?_
      rw [skR_8_4 hS]
      refine mw_aload_n (pc' := 137) dX11_count_136 rfl rfl ?_
      refine mw_getR (pc' := 140) dX11_count_137 rfl flX11_26 rfl (skT_8 hS) ?_
      rw [skR_8_2 hS]
      refine mw_aload_n (pc' := 141) dX11_count_140 rfl rfl ?_
      refine mw_getI (pc' := 144) dX11_count_141 rfl flX11_56 rfl (skT_8 hS) ?_
      refine mw_callV (pc' := 147) (b' := (0, 0)) (b1 := b) (av := [.inr (some 28), .inl (mI h 8 7)]) (rest := []) dX11_count_144 rfl lkX11_208 rfl rfl (Nat.le_of_ble_eq_true rfl) ⟨Nat.le_of_eq (Nat.zero_add _), Nat.le_of_eq (Nat.zero_add _)⟩ (skT_33 hS) ?_
      refine mC_mono (fun r h12 hr => ?_) K
      obtain ⟨rfl, hS, K⟩ := hr
      show mW _ _ _ _ _ _ [] _ _
      refine mw_aload_n (pc' := 148) dX11_count_147 rfl rfl ?_
      refine mw_getR (pc' := 151) dX11_count_148 rfl flX11_38 rfl (skT_8 hS) ?_
      rw [skR_8_4 hS]
      refine mw_getI (pc' := 154) dX11_count_151 rfl flX11_212 rfl (skT_33 hS) ?_
      exact mw_iret dX11_count_154 rfl rfl K

set_option maxRecDepth 100000 in
set_option maxHeartbeats 4000000 in
theorem qX11_addCoast {G : mG} {d : Nat} {b : Nat × Nat} {h : mH} {Q : Option mV → mH → Prop} (a1 : Nat) (ta1 : mT h a1 = 2) (hS : mSk h)
    (K : mC G kX1_drawLand (d + 2) (0, 0) [.inr (some a1)] h (fun r h1 => r = none ∧ mSk h1 ∧ mT h1 a1 = 2 ∧ vp_in (mI h1 33 1) 8 ∧ ∀ h3, h3 = mSR h1 34 (mI h1 33 1).toNatClampNeg (some a1) → ∀ h4, h4 = mSI h3 33 1 ((mI h3 33 1) + 1) → ∀ h5, h5 = mSI h4 8 7 ((mI h4 8 7) + 1) → Q none h5)) : mC G kX11_addCoast (d + 3) b [.inr (some 8), .inr (some a1)] h Q := by
  refine mC_in rfl (Nat.le_of_ble_eq_true rfl) ?_
  show mW _ _ _ _ _ [some (.inr (some 8)), some (.inr (some a1))] _ _ _
  refine mw_aload_n (pc' := 1) dX11_addCoast_0 rfl rfl ?_
  refine mw_callV (pc' := 4) (b' := (0, 0)) (b1 := b) (av := []) (rest := []) dX11_addCoast_1 rfl lkX11_309 rfl rfl (Nat.le_of_ble_eq_true rfl) ⟨Nat.le_of_eq (Nat.zero_add _), Nat.le_of_eq (Nat.zero_add _)⟩ (ta1) ?_
  refine mC_mono (fun r h1 hr => ?_) K
  obtain ⟨rfl, hS, ta1, K⟩ := hr
  show mW _ _ _ _ _ _ [] _ _
  refine mw_aload_n (pc' := 5) dX11_addCoast_4 rfl rfl ?_
  refine mw_getR (pc' := 8) dX11_addCoast_5 rfl flX11_38 rfl (skT_8 hS) ?_
  rw [skR_8_4 hS]
  refine mw_getR (pc' := 11) dX11_addCoast_8 rfl flX11_312 rfl (skT_33 hS) ?_
  rw [skR_33_0 hS]
  refine mw_aload_n (pc' := 12) dX11_addCoast_11 rfl rfl ?_
  refine mw_getR (pc' := 15) dX11_addCoast_12 rfl flX11_38 rfl (skT_8 hS) ?_
  rw [skR_8_4 hS]
  refine mw_getI (pc' := 18) dX11_addCoast_15 rfl flX11_71 rfl (skT_33 hS) ?_
  refine mw_aload_n (pc' := 19) dX11_addCoast_18 rfl rfl ?_
  obtain ⟨o2, K⟩ := K
  refine mw_aastK (pc' := 20) dX11_addCoast_19 rfl (t := 0) (by decide) (skT_34 hS) (skL_34 hS) o2 (ta1) hS (fun h3 eh3 hS => ?_)
  replace K := K h3 eh3
  have ta1 : mT h3 a1 = 2 := by rw [eh3]; exact ta1
  refine mw_aload_n (pc' := 21) dX11_addCoast_20 rfl rfl ?_
  refine mw_getR (pc' := 24) dX11_addCoast_21 rfl flX11_38 rfl (skT_8 hS) ?_
  rw [skR_8_4 hS]
  refine mw_dup (pc' := 25) dX11_addCoast_24 rfl ?_
  refine mw_getI (pc' := 28) dX11_addCoast_25 rfl flX11_71 rfl (skT_33 hS) ?_
  refine mw_iconst (pc' := 29) (v := 1) dX11_addCoast_28 rfl (by decide) ?_
  refine mw_iadd (pc' := 30) dX11_addCoast_29 rfl ?_
  refine mw_putIK (pc' := 33) dX11_addCoast_30 rfl flX11_71 rfl (Or.inl rfl) ⟨rfl, rfl⟩ (skT_33 hS) hS (fun h4 eh4 hS => ?_)
  replace K := K h4 eh4
  have ta1 : mT h4 a1 = 2 := by rw [eh4]; exact ta1
  refine mw_aload_n (pc' := 34) dX11_addCoast_33 rfl rfl ?_
  refine mw_dup (pc' := 35) dX11_addCoast_34 rfl ?_
  refine mw_getI (pc' := 38) dX11_addCoast_35 rfl flX11_56 rfl (skT_8 hS) ?_
  refine mw_iconst (pc' := 39) (v := 1) dX11_addCoast_38 rfl (by decide) ?_
  refine mw_iadd (pc' := 40) dX11_addCoast_39 rfl ?_
  refine mw_putIK (pc' := 43) dX11_addCoast_40 rfl flX11_56 rfl (Or.inl rfl) ⟨rfl, rfl⟩ (skT_8 hS) hS (fun h5 eh5 hS => ?_)
  replace K := K h5 eh5
  have ta1 : mT h5 a1 = 2 := by rw [eh5]; exact ta1
  exact mw_ret dX11_addCoast_43 rfl K

set_option maxRecDepth 100000 in
set_option maxHeartbeats 4000000 in
theorem qX11_addNote {G : mG} {d : Nat} {b1 b2 : Nat} {h : mH} {Q : Option mV → mH → Prop} (v1 : Int32) (v2 : Int32) (v3 : Int32) (v4 : Int32) (hS : mSk h)
    (K : mC G kX6_last (d + 3) (0, 0) [.inr (some 28)] h (fun r h1 => ∃ z2, r = some (.inr z2) ∧ mSk h1 ∧ ((z2 = none → Q (some (.inl (-1))) h1) ∧ (∀ y3, z2 = some y3 → mT h1 y3 = 6 ∧ (((mI h1 y3 5) < 6 → mC G kX5_addNote (d + 3) (3, 518) [.inr (some y3), .inl v1, .inl v2, .inl v3, .inl v4] h1 (fun r h4 => r = none ∧ mSk h4 ∧ mT h4 y3 = 6 ∧ ∀ h5, h5 = mSI h4 8 7 ((mI h4 8 7) + 1) → Q (some (.inl (mI h5 y3 5))) h5)) ∧ (¬ ((mI h1 y3 5) < 6) → Q (some (.inl (-1))) h1)))))) : mC G kX11_addNote (d + 4) (b1 + 3, b2 + 518) [.inr (some 8), .inl v1, .inl v2, .inl v3, .inl v4] h Q := by
  refine mC_in rfl (Nat.le_of_ble_eq_true rfl) ?_
  show mW _ _ _ _ _ [some (.inr (some 8)), some (.inl v1), some (.inl v2), some (.inl v3), some (.inl v4), none] _ _ _
  refine mw_aload_n (pc' := 1) dX11_addNote_0 rfl rfl ?_
  refine mw_getR (pc' := 4) dX11_addNote_1 rfl flX11_26 rfl (skT_8 hS) ?_
  rw [skR_8_2 hS]
  refine mw_callV (pc' := 7) (b' := (0, 0)) (b1 := (b1 + 3, b2 + 518)) (av := []) (rest := []) dX11_addNote_4 rfl lkX11_300 rfl rfl (Nat.le_of_ble_eq_true rfl) ⟨Nat.le_of_eq (Nat.zero_add _), Nat.le_of_eq (Nat.zero_add _)⟩ (skT_28 hS) ?_
  refine mC_mono (fun r h1 hr => ?_) K
  obtain ⟨z2, rfl, hS, K⟩ := hr
  show mW _ _ _ _ _ _ [.inr z2] _ _
  refine mw_astore (pc' := 9) dX11_addNote_7 rfl (by decide) ?_
  show mW _ _ _ _ _ [some (.inr (some 8)), some (.inl v1), some (.inl v2), some (.inl v3), some (.inl v4), some (.inr z2)] _ _ _
  refine mw_aload (pc' := 11) dX11_addNote_9 rfl rfl ?_
  refine mw_ifnull (pc' := 14) (tgt := 24) dX11_addNote_11 rfl (by decide) (fun c7 => ?_) (fun y3 c7 => ?_)
  · replace K := K.1 c7
    try rw [c7]
    refine mw_iconst (pc' := 25) (v := (-1)) dX11_addNote_24 rfl (by decide) ?_
    exact mw_iret dX11_addNote_25 rfl rfl K
  · obtain ⟨ty3, K⟩ := K.2 y3 c7
    try rw [c7]
    refine mw_aload (pc' := 16) dX11_addNote_14 rfl rfl ?_
    refine mw_getI (pc' := 19) dX11_addNote_16 rfl flX11_304 rfl (ty3) ?_
    refine mw_bipush (pc' := 21) (v := 6) dX11_addNote_19 rfl (by decide) ?_
    refine mw_icmp_lt (pc' := 24) (tgt := 26) dX11_addNote_21 rfl (by decide) (fun c6 => ?_) (fun c6 => ?_)
    · replace K := K.1 c6
      refine mw_aload (pc' := 28) dX11_addNote_26 rfl rfl ?_
      refine mw_iload_n (pc' := 29) dX11_addNote_28 rfl rfl ?_
      refine mw_iload_n (pc' := 30) dX11_addNote_29 rfl rfl ?_
      refine mw_iload_n (pc' := 31) dX11_addNote_30 rfl rfl ?_
      refine mw_iload (pc' := 33) dX11_addNote_31 rfl rfl ?_
      refine mw_callV (pc' := 36) (b' := (3, 518)) (b1 := (b1, b2)) (av := [.inl v1, .inl v2, .inl v3, .inl v4]) (rest := []) dX11_addNote_33 rfl lkX11_316 rfl rfl (Nat.le_of_ble_eq_true rfl) ⟨by dsimp only; omega, by dsimp only; omega⟩ (ty3) ?_
      refine mC_mono (fun r h4 hr => ?_) K
      obtain ⟨rfl, hS, ty3, K⟩ := hr
      show mW _ _ _ _ _ _ [] _ _
      refine mw_aload_n (pc' := 37) dX11_addNote_36 rfl rfl ?_
      refine mw_dup (pc' := 38) dX11_addNote_37 rfl ?_
      refine mw_getI (pc' := 41) dX11_addNote_38 rfl flX11_56 rfl (skT_8 hS) ?_
      refine mw_iconst (pc' := 42) (v := 1) dX11_addNote_41 rfl (by decide) ?_
      refine mw_iadd (pc' := 43) dX11_addNote_42 rfl ?_
      refine mw_putIK (pc' := 46) dX11_addNote_43 rfl flX11_56 rfl (Or.inl rfl) ⟨rfl, rfl⟩ (skT_8 hS) hS (fun h5 eh5 hS => ?_)
      replace K := K h5 eh5
      have ty3 : mT h5 y3 = 6 := by rw [eh5]; exact ty3
      refine mw_aload (pc' := 48) dX11_addNote_46 rfl rfl ?_
      refine mw_getI (pc' := 51) dX11_addNote_48 rfl flX11_304 rfl (ty3) ?_
      exact mw_iret dX11_addNote_51 rfl rfl K
    · replace K := K.2 c6
      refine mw_iconst (pc' := 25) (v := (-1)) dX11_addNote_24 rfl (by decide) ?_
      exact mw_iret dX11_addNote_25 rfl rfl K

set_option maxRecDepth 100000 in
set_option maxHeartbeats 4000000 in
theorem qX11_bitsIn {G : mG} {d : Nat} {b : Nat × Nat} {h : mH} {Q : Option mV → mH → Prop} (a1 : Nat) (v2 : Int32) (ta1 : mT h a1 = 100) (hS : mSk h)
    (K : mW G kX11_bitsIn (d + 1) b 4 [some (.inr (some a1)), some (.inl v2), some (.inl 0), some (.inl 0)] [] h Q) : mC G kX11_bitsIn (d + 1) b [.inr (some a1), .inl v2] h Q := by
  refine mC_in rfl (Nat.le_of_ble_eq_true rfl) ?_
  show mW _ _ _ _ _ [some (.inr (some a1)), some (.inl v2), none, none] _ _ _
  refine mw_iconst (pc' := 1) (v := 0) dX11_bitsIn_0 rfl (by decide) ?_
  refine mw_istore_n (pc' := 2) dX11_bitsIn_1 rfl (by decide) ?_
  show mW _ _ _ _ _ [some (.inr (some a1)), some (.inl v2), some (.inl 0), none] _ _ _
  refine mw_iconst (pc' := 3) (v := 0) dX11_bitsIn_2 rfl (by decide) ?_
  refine mw_istore_n (pc' := 4) dX11_bitsIn_3 rfl (by decide) ?_
  show mW _ _ _ _ _ [some (.inr (some a1)), some (.inl v2), some (.inl 0), some (.inl 0)] _ _ _
  exact K

set_option maxRecDepth 100000 in
set_option maxHeartbeats 4000000 in
theorem qX11_bitsIn_4 {G : mG} {d : Nat} {b : Nat × Nat} {h : mH} {Q : Option mV → mH → Prop} (a0 : Nat) (v1 : Int32) (v2 : Int32) (v3 : Int32) (ta0 : mT h a0 = 100) (hS : mSk h)
    (K : ((32 ≤ v3 → Q (some (.inl v2)) h) ∧ (¬ (32 ≤ v3) → vp_in (v1 + v3) (mL h a0) ∧ mW G kX11_bitsIn (d + 1) b 4 [some (.inr (some a0)), some (.inl v1), some (.inl (v2 + (f_J6_bitCount_0f7a4 (mI h a0 (v1 + v3).toNatClampNeg)))), some (.inl (v3 + 1))] [] h Q))) : mW G kX11_bitsIn (d + 1) b 4 [some (.inr (some a0)), some (.inl v1), some (.inl v2), some (.inl v3)] [] h Q := by
  refine mw_iload_n (pc' := 5) dX11_bitsIn_4 rfl rfl ?_
  refine mw_bipush (pc' := 7) (v := 32) dX11_bitsIn_5 rfl (by decide) ?_
  refine mw_icmp_ge (pc' := 10) (tgt := 27) dX11_bitsIn_7 rfl (by decide) (fun c2 => ?_) (fun c2 => ?_)
  · replace K := K.1 c2
    refine mw_iload_n (pc' := 28) dX11_bitsIn_27 rfl rfl ?_
    exact mw_iret dX11_bitsIn_28 rfl rfl K
  · replace K := K.2 c2
    refine mw_iload_n (pc' := 11) dX11_bitsIn_10 rfl rfl ?_
    refine mw_aload_n (pc' := 12) dX11_bitsIn_11 rfl rfl ?_
    refine mw_iload_n (pc' := 13) dX11_bitsIn_12 rfl rfl ?_
    refine mw_iload_n (pc' := 14) dX11_bitsIn_13 rfl rfl ?_
    refine mw_iadd (pc' := 15) dX11_bitsIn_14 rfl ?_
    obtain ⟨o1, K⟩ := K
    refine mw_ialdL (pc' := 16) dX11_bitsIn_15 rfl (ta0) (rfl) o1 ?_
    refine mw_callS (pc' := 19) (b' := (0, 0)) (b1 := b) (av := [.inl (mI h a0 (v1 + v3).toNatClampNeg)]) (rest := [.inl v2]) dX11_bitsIn_16 rfl lkX11_319 rfl rfl (Nat.le_of_ble_eq_true rfl) ⟨Nat.le_of_eq (Nat.zero_add _), Nat.le_of_eq (Nat.zero_add _)⟩ ?_
    refine pJ6_bitCount_0f7a4 ?_
    refine mw_iadd (pc' := 20) dX11_bitsIn_19 rfl ?_
    refine mw_istore_n (pc' := 21) dX11_bitsIn_20 rfl (by decide) ?_
    show mW _ _ _ _ _ [some (.inr (some a0)), some (.inl v1), some (.inl (v2 + (f_J6_bitCount_0f7a4 (mI h a0 (v1 + v3).toNatClampNeg)))), some (.inl v3)] _ _ _
    refine mw_iinc (pc' := 24) (v := v3 + 1) dX11_bitsIn_21 rfl (by decide) rfl rfl ?_
    show mW _ _ _ _ _ [some (.inr (some a0)), some (.inl v1), some (.inl (v2 + (f_J6_bitCount_0f7a4 (mI h a0 (v1 + v3).toNatClampNeg)))), some (.inl (v3 + 1))] _ _ _
    refine mw_goto (tgt := 4) dX11_bitsIn_24 (by decide) ?_
    exact K
