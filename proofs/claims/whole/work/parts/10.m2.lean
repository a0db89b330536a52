set_option maxRecDepth 100000 in
set_option maxHeartbeats 4000000 in
theorem qX12_possible {G : mG} {d : Nat} {b : Nat × Nat} {h : mH} {Q : Option mV → mH → Prop} (v1 : Int32) (v2 : Int32) (hS : mSk h)
    (K : ((v1 = (-1) → mC G kX12_isLine (d + 7) (0, 0) [.inr (some 47), .inl v2] h (fun r h1 => ∃ x2, r = some (.inl x2) ∧ mSk h1 ∧ ((¬ x2 = 0 → ((v1 = (-1) → mW G kX12_possible (d + 8) b 41 [some (.inr (some 47)), none, some (.inl v2), some (.inl 0), some (.inl 0)] [] h1 Q) ∧ (¬ v1 = (-1) → mC G kX12_possibleIn (d + 7) (0, 0) [.inr (some 47), .inl v1, .inl v2] h1 (fun r h3 => ∃ x4, r = some (.inl x4) ∧ mSk h3 ∧ Q (some (.inl x4)) h3)))) ∧ (x2 = 0 → Q (some (.inl (-2))) h1)))) ∧ (¬ v1 = (-1) → mC G kX12_isCoast (d + 7) (0, 0) [.inr (some 47), .inl v1] h (fun r h7 => ∃ x8, r = some (.inl x8) ∧ mSk h7 ∧ ((x8 = 0 → Q (some (.inl (-2))) h7) ∧ (¬ x8 = 0 → mC G kX12_isLine (d + 7) (0, 0) [.inr (some 47), .inl v2] h7 (fun r h9 => ∃ x10, r = some (.inl x10) ∧ mSk h9 ∧ ((¬ x10 = 0 → ((v1 = (-1) → mW G kX12_possible (d + 8) b 41 [some (.inr (some 47)), none, some (.inl v2), some (.inl 0), some (.inl 0)] [] h9 Q) ∧ (¬ v1 = (-1) → mC G kX12_possibleIn (d + 7) (0, 0) [.inr (some 47), .inl v1, .inl v2] h9 (fun r h11 => ∃ x12, r = some (.inl x12) ∧ mSk h11 ∧ Q (some (.inl x12)) h11)))) ∧ (x10 = 0 → Q (some (.inl (-2))) h9))))))))) : mC G kX12_possible (d + 8) b [.inr (some 47), .inl v1, .inl v2] h Q := by
  refine mC_in rfl (Nat.le_of_ble_eq_true rfl) ?_
  show mW _ _ _ _ _ [some (.inr (some 47)), some (.inl v1), some (.inl v2), none, none] _ _ _
  refine mw_iload_n (pc' := 1) dX12_possible_0 rfl rfl ?_
  refine mw_iconst (pc' := 2) (v := (-1)) dX12_possible_1 rfl (by decide) ?_
  refine mw_icmp_eq (pc' := 5) (tgt := 13) dX12_possible_2 rfl (by decide) (fun c16 => ?_) (fun c16 => ?_)
  · replace K := K.1 c16
    refine mw_aload_n (pc' := 14) dX12_possible_13 rfl rfl ?_
    refine mw_iload_n (pc' := 15) dX12_possible_14 rfl rfl ?_
    refine mw_callV (pc' := 18) (b' := (0, 0)) (b1 := b) (av := [.inl v2]) (rest := []) dX12_possible_15 rfl lkX12_397 rfl rfl (Nat.le_of_ble_eq_true rfl) ⟨Nat.le_of_eq (Nat.zero_add _), Nat.le_of_eq (Nat.zero_add _)⟩ (skT_47 hS) ?_
    refine mC_mono (fun r h1 hr => ?_) K
    obtain ⟨x2, rfl, hS, K⟩ := hr
    show mW _ _ _ _ _ _ [.inl x2] _ _
    refine mw_if_ne (pc' := 21) (tgt := 24) dX12_possible_18 rfl (by decide) (fun c6 => ?_) (fun c6 => ?_)
    · replace K := K.1 c6
      refine mw_iload_n (pc' := 25) dX12_possible_24 rfl rfl ?_
      refine mw_iconst (pc' := 26) (v := (-1)) dX12_possible_25 rfl (by decide) ?_
      refine mw_icmp_eq (pc' := 29) (tgt := 36) dX12_possible_26 rfl (by decide) (fun c5 => ?_) (fun c5 => ?_)
      · replace K := K.1 c5
        refine mw_iconst (pc' := 37) (v := 0) dX12_possible_36 rfl (by decide) ?_
        refine mw_istore_n (pc' := 38) dX12_possible_37 rfl (by decide) ?_
        show mW _ _ _ _ _ [some (.inr (some 47)), some (.inl v1), some (.inl v2), some (.inl 0), none] _ _ _
        refine mw_iconst (pc' := 39) (v := 0) dX12_possible_38 rfl (by decide) ?_
        refine mw_istore (pc' := 41) dX12_possible_39 rfl (by decide) ?_
        show mW _ _ _ _ _ [some (.inr (some 47)), some (.inl v1), some (.inl v2), some (.inl 0), some (.inl 0)] _ _ _
        refine mw_weak (ls' := [some (.inr (some 47)), none, some (.inl v2), some (.inl 0), some (.inl 0)]) ?_ ?_
        · intro i v hv; match i, hv with
          | 0, hv => exact hv
          | 1, hv => cases hv
          | 2, hv => exact hv
          | 3, hv => exact hv
          | 4, hv => exact hv
          | n + 5, hv => cases hv
        exact K
      · replace K := K.2 c5
        refine mw_aload_n (pc' := 30) dX12_possible_29 rfl rfl ?_
        refine mw_iload_n (pc' := 31) dX12_possible_30 rfl rfl ?_
        refine mw_iload_n (pc' := 32) dX12_possible_31 rfl rfl ?_
        refine mw_callV (pc' := 35) (b' := (0, 0)) (b1 := b) (av := [.inl v1, .inl v2]) (rest := []) dX12_possible_32 rfl lkX12_400 rfl rfl (Nat.le_of_ble_eq_true rfl) ⟨Nat.le_of_eq (Nat.zero_add _), Nat.le_of_eq (Nat.zero_add _)⟩ (skT_47 hS) ?_
        refine mC_mono (fun r h3 hr => ?_) K
        obtain ⟨x4, rfl, hS, K⟩ := hr
        show mW _ _ _ _ _ _ [.inl x4] _ _
        exact mw_iret dX12_possible_35 rfl rfl K
    · replace K := K.2 c6
      refine mw_bipush (pc' := 23) (v := (-2)) dX12_possible_21 rfl (by decide) ?_
      exact mw_iret dX12_possible_23 rfl rfl K
  · replace K := K.2 c16
    refine mw_aload_n (pc' := 6) dX12_possible_5 rfl rfl ?_
    refine mw_iload_n (pc' := 7) dX12_possible_6 rfl rfl ?_
    refine mw_callV (pc' := 10) (b' := (0, 0)) (b1 := b) (av := [.inl v1]) (rest := []) dX12_possible_7 rfl lkX12_187 rfl rfl (Nat.le_of_ble_eq_true rfl) ⟨Nat.le_of_eq (Nat.zero_add _), Nat.le_of_eq (Nat.zero_add _)⟩ (skT_47 hS) ?_
    refine mC_mono (fun r h7 hr => ?_) K
    obtain ⟨x8, rfl, hS, K⟩ := hr
    show mW _ _ _ _ _ _ [.inl x8] _ _
    refine mw_if_eq (pc' := 13) (tgt := 21) dX12_possible_10 rfl (by decide) (fun c15 => ?_) (fun c15 => ?_)
    · replace K := K.1 c15
      refine mw_bipush (pc' := 23) (v := (-2)) dX12_possible_21 rfl (by decide) ?_
      exact mw_iret dX12_possible_23 rfl rfl K
    · replace K := K.2 c15
      refine mw_aload_n (pc' := 14) dX12_possible_13 rfl rfl ?_
      refine mw_iload_n (pc' := 15) dX12_possible_14 rfl rfl ?_
      refine mw_callV (pc' := 18) (b' := (0, 0)) (b1 := b) (av := [.inl v2]) (rest := []) dX12_possible_15 rfl lkX12_397 rfl rfl (Nat.le_of_ble_eq_true rfl) ⟨Nat.le_of_eq (Nat.zero_add _), Nat.le_of_eq (Nat.zero_add _)⟩ (skT_47 hS) ?_
      refine mC_mono (fun r h9 hr => ?_) K
      obtain ⟨x10, rfl, hS, K⟩ := hr
      show mW _ _ _ _ _ _ [.inl x10] _ _
      refine mw_if_ne (pc' := 21) (tgt := 24) dX12_possible_18 rfl (by decide) (fun c14 => ?_) (fun c14 => ?_)
      · replace K := K.1 c14
        refine mw_iload_n (pc' := 25) dX12_possible_24 rfl rfl ?_
        refine mw_iconst (pc' := 26) (v := (-1)) dX12_possible_25 rfl (by decide) ?_
        refine mw_icmp_eq (pc' := 29) (tgt := 36) dX12_possible_26 rfl (by decide) (fun c13 => ?_) (fun c13 => ?_)
        · replace K := K.1 c13
          refine mw_iconst (pc' := 37) (v := 0) dX12_possible_36 rfl (by decide) ?_
          refine mw_istore_n (pc' := 38) dX12_possible_37 rfl (by decide) ?_
          show mW _ _ _ _ _ [some (.inr (some 47)), some (.inl v1), some (.inl v2), some (.inl 0), none] _ _ _
          refine mw_iconst (pc' := 39) (v := 0) dX12_possible_38 rfl (by decide) ?_
          refine mw_istore (pc' := 41) dX12_possible_39 rfl (by decide) ?_
          show mW _ _ _ _ _ [some (.inr (some 47)), some (.inl v1), some (.inl v2), some (.inl 0), some (.inl 0)] _ _ _
          refine mw_weak (ls' := [some (.inr (some 47)), none, some (.inl v2), some (.inl 0), some (.inl 0)]) ?_ ?_
          · intro i v hv; match i, hv with
            | 0, hv => exact hv
            | 1, hv => cases hv
            | 2, hv => exact hv
            | 3, hv => exact hv
            | 4, hv => exact hv
            | n + 5, hv => cases hv
          exact K
        · replace K := K.2 c13
          refine mw_aload_n (pc' := 30) dX12_possible_29 rfl rfl ?_
          refine mw_iload_n (pc' := 31) dX12_possible_30 rfl rfl ?_
          refine mw_iload_n (pc' := 32) dX12_possible_31 rfl rfl ?_
          refine mw_callV (pc' := 35) (b' := (0, 0)) (b1 := b) (av := [.inl v1, .inl v2]) (rest := []) dX12_possible_32 rfl lkX12_400 rfl rfl (Nat.le_of_ble_eq_true rfl) ⟨Nat.le_of_eq (Nat.zero_add _), Nat.le_of_eq (Nat.zero_add _)⟩ (skT_47 hS) ?_
          refine mC_mono (fun r h11 hr => ?_) K
          obtain ⟨x12, rfl, hS, K⟩ := hr
          show mW _ _ _ _ _ _ [.inl x12] _ _
          exact mw_iret dX12_possible_35 rfl rfl K
      · replace K := K.2 c14
        refine mw_bipush (pc' := 23) (v := (-2)) dX12_possible_21 rfl (by decide) ?_
        exact mw_iret dX12_possible_23 rfl rfl K

set_option maxRecDepth 100000 in
set_option maxHeartbeats 4000000 in
theorem qX12_possible_41 {G : mG} {d : Nat} {b : Nat × Nat} {h : mH} {Q : Option mV → mH → Prop} (v2 : Int32) (v3 : Int32) (v4 : Int32) (hS : mSk h)
    (K : (((mI h 47 0) ≤ v4 → Q (some (.inl v3)) h) ∧ (¬ ((mI h 47 0) ≤ v4) → mC G kX12_possibleIn (d + 7) (0, 0) [.inr (some 47), .inl v4, .inl v2] h (fun r h1 => ∃ x2, r = some (.inl x2) ∧ mSk h1 ∧ mW G kX12_possible (d + 8) b 41 [some (.inr (some 47)), none, some (.inl v2), some (.inl (v3 + x2)), some (.inl (v4 + 1))] [] h1 Q)))) : mW G kX12_possible (d + 8) b 41 [some (.inr (some 47)), none, some (.inl v2), some (.inl v3), some (.inl v4)] [] h Q := by
  refine mw_iload (pc' := 43) dX12_possible_41 rfl rfl ?_
  refine mw_aload_n (pc' := 44) dX12_possible_43 rfl rfl ?_
  refine mw_getI (pc' := 47) dX12_possible_44 rfl flX12_154 rfl (skT_47 hS) ?_
  refine mw_icmp_ge (pc' := 50) (tgt := 66) dX12_possible_47 rfl (by decide) (fun c3 => ?_) (fun c3 => ?_)
  · replace K := K.1 c3
    refine mw_iload_n (pc' := 67) dX12_possible_66 rfl rfl ?_
    exact mw_iret dX12_possible_67 rfl rfl K
  · replace K := K.2 c3
    refine mw_iload_n (pc' := 51) dX12_possible_50 rfl rfl ?_
    refine mw_aload_n (pc' := 52) dX12_possible_51 rfl rfl ?_
    refine mw_iload (pc' := 54) dX12_possible_52 rfl rfl ?_
    refine mw_iload_n (pc' := 55) dX12_possible_54 rfl rfl ?_
    refine mw_callV (pc' := 58) (b' := (0, 0)) (b1 := b) (av := [.inl v4, .inl v2]) (rest := [.inl v3]) dX12_possible_55 rfl lkX12_400 rfl rfl (Nat.le_of_ble_eq_true rfl) ⟨Nat.le_of_eq (Nat.zero_add _), Nat.le_of_eq (Nat.zero_add _)⟩ (skT_47 hS) ?_
    refine mC_mono (fun r h1 hr => ?_) K
    obtain ⟨x2, rfl, hS, K⟩ := hr
    show mW _ _ _ _ _ _ [.inl x2, .inl v3] _ _
    refine mw_iadd (pc' := 59) dX12_possible_58 rfl ?_
    refine mw_istore_n (pc' := 60) dX12_possible_59 rfl (by decide) ?_
    show mW _ _ _ _ _ [some (.inr (some 47)), none, some (.inl v2), some (.inl (v3 + x2)), some (.inl v4)] _ _ _
    refine mw_iinc (pc' := 63) (v := v4 + 1) dX12_possible_60 rfl (by decide) rfl rfl ?_
    show mW _ _ _ _ _ [some (.inr (some 47)), none, some (.inl v2), some (.inl (v3 + x2)), some (.inl (v4 + 1))] _ _ _
    refine mw_goto (tgt := 41) dX12_possible_63 (by decide) ?_
    exact K

set_option maxRecDepth 100000 in
set_option maxHeartbeats 4000000 in
theorem qX12_isPossible {G : mG} {d : Nat} {b : Nat × Nat} {h : mH} {Q : Option mV → mH → Prop} (v1 : Int32) (v2 : Int32) (v3 : Int32) (v4 : Int32) (hS : mSk h)
    (K : mC G kX12_isCoast (d + 6) (0, 0) [.inr (some 47), .inl v1] h (fun r h1 => ∃ x2, r = some (.inl x2) ∧ mSk h1 ∧ ((x2 = 0 → Q (some (.inl (-1))) h1) ∧ (¬ x2 = 0 → mC G kX12_isLine (d + 6) (0, 0) [.inr (some 47), .inl v2] h1 (fun r h3 => ∃ x4, r = some (.inl x4) ∧ mSk h3 ∧ ((x4 = 0 → Q (some (.inl (-1))) h3) ∧ (¬ x4 = 0 → ((¬ (f_X12_isCell v3 v4) = 0 → mC G kX12_laysPossible (d + 6) (0, 0) [.inr (some 47), .inl v1] h3 (fun r h5 => r = none ∧ mSk h5 ∧ mC G kX12_isThere (d + 6) (0, 0) [.inr (some 47), .inl v2, .inl ((32 * v4) + v3)] h5 (fun r h6 => ∃ x7, r = some (.inl x7) ∧ mSk h6 ∧ ∀ w8 : Int32, w8 = (if x7 = 0 then 0 else 1) → Q (some (.inl w8)) h6))) ∧ ((f_X12_isCell v3 v4) = 0 → Q (some (.inl (-1))) h3))))))))) : mC G kX12_isPossible (d + 7) b [.inr (some 47), .inl v1, .inl v2, .inl v3, .inl v4] h Q := by
  refine mC_in rfl (Nat.le_of_ble_eq_true rfl) ?_
  show mW _ _ _ _ _ [some (.inr (some 47)), some (.inl v1), some (.inl v2), some (.inl v3), some (.inl v4)] _ _ _
  refine mw_aload_n (pc' := 1) dX12_isPossible_0 rfl rfl ?_
  refine mw_iload_n (pc' := 2) dX12_isPossible_1 rfl rfl ?_
  refine mw_callV (pc' := 5) (b' := (0, 0)) (b1 := b) (av := [.inl v1]) (rest := []) dX12_isPossible_2 rfl lkX12_187 rfl rfl (Nat.le_of_ble_eq_true rfl) ⟨Nat.le_of_eq (Nat.zero_add _), Nat.le_of_eq (Nat.zero_add _)⟩ (skT_47 hS) ?_
  refine mC_mono (fun r h1 hr => ?_) K
  obtain ⟨x2, rfl, hS, K⟩ := hr
  show mW _ _ _ _ _ _ [.inl x2] _ _
  refine mw_if_eq (pc' := 8) (tgt := 25) dX12_isPossible_5 rfl (by decide) (fun c13 => ?_) (fun c13 => ?_)
  · replace K := K.1 c13
    refine mw_iconst (pc' := 26) (v := (-1)) dX12_isPossible_25 rfl (by decide) ?_
    exact mw_iret dX12_isPossible_26 rfl rfl K
  · replace K := K.2 c13
    refine mw_aload_n (pc' := 9) dX12_isPossible_8 rfl rfl ?_
    refine mw_iload_n (pc' := 10) dX12_isPossible_9 rfl rfl ?_
    refine mw_callV (pc' := 13) (b' := (0, 0)) (b1 := b) (av := [.inl v2]) (rest := []) dX12_isPossible_10 rfl lkX12_397 rfl rfl (Nat.le_of_ble_eq_true rfl) ⟨Nat.le_of_eq (Nat.zero_add _), Nat.le_of_eq (Nat.zero_add _)⟩ (skT_47 hS) ?_
    refine mC_mono (fun r h3 hr => ?_) K
    obtain ⟨x4, rfl, hS, K⟩ := hr
    show mW _ _ _ _ _ _ [.inl x4] _ _
    refine mw_if_eq (pc' := 16) (tgt := 25) dX12_isPossible_13 rfl (by decide) (fun c12 => ?_) (fun c12 => ?_)
    · replace K := K.1 c12
      refine mw_iconst (pc' := 26) (v := (-1)) dX12_isPossible_25 rfl (by decide) ?_
      exact mw_iret dX12_isPossible_26 rfl rfl K
    · replace K := K.2 c12
      refine mw_iload_n (pc' := 17) dX12_isPossible_16 rfl rfl ?_
      refine mw_iload (pc' := 19) dX12_isPossible_17 rfl rfl ?_
      refine mw_callS (pc' := 22) (b' := (0, 0)) (b1 := b) (av := [.inl v3, .inl v4]) (rest := []) dX12_isPossible_19 rfl lkX12_190 rfl rfl (Nat.le_of_ble_eq_true rfl) ⟨Nat.le_of_eq (Nat.zero_add _), Nat.le_of_eq (Nat.zero_add _)⟩ ?_
      refine pX12_isCell ?_
      refine mw_if_ne (pc' := 25) (tgt := 27) dX12_isPossible_22 rfl (by decide) (fun c11 => ?_) (fun c11 => ?_)
      · replace K := K.1 c11
        refine mw_aload_n (pc' := 28) dX12_isPossible_27 rfl rfl ?_
        refine mw_iload_n (pc' := 29) dX12_isPossible_28 rfl rfl ?_
        refine mw_callV (pc' := 32) (b' := (0, 0)) (b1 := b) (av := [.inl v1]) (rest := []) dX12_isPossible_29 rfl lkX12_391 rfl rfl (Nat.le_of_ble_eq_true rfl) ⟨Nat.le_of_eq (Nat.zero_add _), Nat.le_of_eq (Nat.zero_add _)⟩ (skT_47 hS) ?_
        refine mC_mono (fun r h5 hr => ?_) K
        obtain ⟨rfl, hS, K⟩ := hr
        show mW _ _ _ _ _ _ [] _ _
        refine mw_aload_n (pc' := 33) dX12_isPossible_32 rfl rfl ?_
        refine mw_iload_n (pc' := 34) dX12_isPossible_33 rfl rfl ?_
        refine mw_bipush (pc' := 36) (v := 32) dX12_isPossible_34 rfl (by decide) ?_
        refine mw_iload (pc' := 38) dX12_isPossible_36 rfl rfl ?_
        refine mw_imul (pc' := 39) dX12_isPossible_38 rfl ?_
        refine mw_iload_n (pc' := 40) dX12_isPossible_39 rfl rfl ?_
        refine mw_iadd (pc' := 41) dX12_isPossible_40 rfl ?_
        refine mw_callV (pc' := 44) (b' := (0, 0)) (b1 := b) (av := [.inl v2, .inl ((32 * v4) + v3)]) (rest := []) dX12_isPossible_41 rfl lkX12_394 rfl rfl (Nat.le_of_ble_eq_true rfl) ⟨Nat.le_of_eq (Nat.zero_add _), Nat.le_of_eq (Nat.zero_add _)⟩ (skT_47 hS) ?_
        refine mC_mono (fun r h6 hr => ?_) K
        obtain ⟨x7, rfl, hS, K⟩ := hr
        show mW _ _ _ _ _ _ [.inl x7] _ _
        have J9 : ∀ w8 : Int32, w8 = (if x7 = 0 then 0 else 1) → mW G kX12_isPossible (d + 7) b 52 [some (.inr (some 47)), some (.inl v1), some (.inl v2), some (.inl v3), some (.inl v4)] ([.inl w8]) h6 Q := by
          intro w8 ew8
          replace K := K w8 ew8
          exact mw_iret dX12_isPossible_52 rfl rfl K
        refine mw_if_eq (pc' := 47) (tgt := 51) dX12_isPossible_44 rfl (by decide) (fun c10 => ?_) (fun c10 => ?_)
        · refine mw_iconst (pc' := 52) (v := 0) dX12_isPossible_51 rfl (by decide) ?_
          exact J9 _ (by rw [if_pos c10])
        · refine mw_iconst (pc' := 48) (v := 1) dX12_isPossible_47 rfl (by decide) ?_
          refine mw_goto (tgt := 52) dX12_isPossible_48 (by decide) ?_
          exact J9 _ (by rw [if_neg c10])
      · replace K := K.2 c11
        refine mw_iconst (pc' := 26) (v := (-1)) dX12_isPossible_25 rfl (by decide) ?_
        exact mw_iret dX12_isPossible_26 rfl rfl K

set_option maxRecDepth 100000 in
set_option maxHeartbeats 4000000 in
theorem qX12_laysFitting {G : mG} {d : Nat} {b : Nat × Nat} {h : mH} {Q : Option mV → mH → Prop}  (hS : mSk h)
    (K : ∀ h1, h1 = mSI h 47 51 0 → mW G kX12_laysFitting (d + 7) b 7 [some (.inr (some 47)), some (.inl 0)] [] h1 Q) : mC G kX12_laysFitting (d + 7) b [.inr (some 47)] h Q := by
  refine mC_in rfl (Nat.le_of_ble_eq_true rfl) ?_
  show mW _ _ _ _ _ [some (.inr (some 47)), none] _ _ _
  refine mw_aload_n (pc' := 1) dX12_laysFitting_0 rfl rfl ?_
  refine mw_iconst (pc' := 2) (v := 0) dX12_laysFitting_1 rfl (by decide) ?_
  refine mw_putIK (pc' := 5) dX12_laysFitting_2 rfl flX12_403 rfl (Or.inl rfl) ⟨rfl, rfl⟩ (skT_47 hS) hS (fun h1 eh1 hS => ?_)
  replace K := K h1 eh1
  refine mw_iconst (pc' := 6) (v := 0) dX12_laysFitting_5 rfl (by decide) ?_
  refine mw_istore_n (pc' := 7) dX12_laysFitting_6 rfl (by decide) ?_
  show mW _ _ _ _ _ [some (.inr (some 47)), some (.inl 0)] _ _ _
  exact K

set_option maxRecDepth 100000 in
set_option maxHeartbeats 4000000 in
theorem qX12_laysFitting_7 {G : mG} {d : Nat} {b : Nat × Nat} {h : mH} {Q : Option mV → mH → Prop} (v1 : Int32) (hS : mSk h)
    (K : (((mI h 47 0) ≤ v1 → Q none h) ∧ (¬ ((mI h 47 0) ≤ v1) → mC G kX12_isFitting (d + 6) (0, 0) [.inr (some 47), .inl v1] h (fun r h1 => ∃ x2, r = some (.inl x2) ∧ mSk h1 ∧ ((x2 = 0 → mW G kX12_laysFitting (d + 7) b 7 [some (.inr (some 47)), some (.inl (v1 + 1))] [] h1 Q) ∧ (¬ x2 = 0 → ∀ h3, h3 = mSI h1 47 51 ((mI h1 47 51) ||| (m_shl 1 v1)) → mW G kX12_laysFitting (d + 7) b 7 [some (.inr (some 47)), some (.inl (v1 + 1))] [] h3 Q)))))) : mW G kX12_laysFitting (d + 7) b 7 [some (.inr (some 47)), some (.inl v1)] [] h Q := by
  refine mw_iload_n (pc' := 8) dX12_laysFitting_7 rfl rfl ?_
  refine mw_aload_n (pc' := 9) dX12_laysFitting_8 rfl rfl ?_
  refine mw_getI (pc' := 12) dX12_laysFitting_9 rfl flX12_154 rfl (skT_47 hS) ?_
  refine mw_icmp_ge (pc' := 15) (tgt := 41) dX12_laysFitting_12 rfl (by decide) (fun c5 => ?_) (fun c5 => ?_)
  · replace K := K.1 c5
    exact mw_ret dX12_laysFitting_41 rfl K
  · replace K := K.2 c5
    refine mw_aload_n (pc' := 16) dX12_laysFitting_15 rfl rfl ?_
    refine mw_iload_n (pc' := 17) dX12_laysFitting_16 rfl rfl ?_
    refine mw_callV (pc' := 20) (b' := (0, 0)) (b1 := b) (av := [.inl v1]) (rest := []) dX12_laysFitting_17 rfl lkX12_385 rfl rfl (Nat.le_of_ble_eq_true rfl) ⟨Nat.le_of_eq (Nat.zero_add _), Nat.le_of_eq (Nat.zero_add _)⟩ (skT_47 hS) ?_
    refine mC_mono (fun r h1 hr => ?_) K
    obtain ⟨x2, rfl, hS, K⟩ := hr
    show mW _ _ _ _ _ _ [.inl x2] _ _
    refine mw_if_eq (pc' := 23) (tgt := 35) dX12_laysFitting_20 rfl (by decide) (fun c4 => ?_) (fun c4 => ?_)
    · replace K := K.1 c4
      refine mw_iinc (pc' := 38) (v := v1 + 1) dX12_laysFitting_35 rfl (by decide) rfl rfl ?_
      show mW _ _ _ _ _ [some (.inr (some 47)), some (.inl (v1 + 1))] _ _ _
      refine mw_goto (tgt := 7) dX12_laysFitting_38 (by decide) ?_
      exact K
    · replace K := K.2 c4
      refine mw_aload_n (pc' := 24) dX12_laysFitting_23 rfl rfl ?_
      refine mw_aload_n (pc' := 25) dX12_laysFitting_24 rfl rfl ?_
      refine mw_getI (pc' := 28) dX12_laysFitting_25 rfl flX12_403 rfl (skT_47 hS) ?_
      refine mw_iconst (pc' := 29) (v := 1) dX12_laysFitting_28 rfl (by decide) ?_
      refine mw_iload_n (pc' := 30) dX12_laysFitting_29 rfl rfl ?_
      refine mw_ishlM (pc' := 31) dX12_laysFitting_30 rfl ?_
      refine mw_ior (pc' := 32) dX12_laysFitting_31 rfl ?_
      refine mw_putIK (pc' := 35) dX12_laysFitting_32 rfl flX12_403 rfl (Or.inl rfl) ⟨rfl, rfl⟩ (skT_47 hS) hS (fun h3 eh3 hS => ?_)
      replace K := K h3 eh3
      refine mw_iinc (pc' := 38) (v := v1 + 1) dX12_laysFitting_35 rfl (by decide) rfl rfl ?_
      show mW _ _ _ _ _ [some (.inr (some 47)), some (.inl (v1 + 1))] _ _ _
      refine mw_goto (tgt := 7) dX12_laysFitting_38 (by decide) ?_
      exact K

set_option maxRecDepth 100000 in
set_option maxHeartbeats 4000000 in
theorem qX12_lowest {G : mG} {d : Nat} {b : Nat × Nat} {h : mH} {Q : Option mV → mH → Prop} (v1 : Int32) (v2 : Int32) (hS : mSk h)
    (K : mW G kX12_lowest d b 2 [some (.inr (some 47)), some (.inl v1), some (.inl v2), some (.inl 0)] [] h Q) : mC G kX12_lowest d b [.inr (some 47), .inl v1, .inl v2] h Q := by
  refine mC_in rfl (Nat.le_of_ble_eq_true rfl) ?_
  show mW _ _ _ _ _ [some (.inr (some 47)), some (.inl v1), some (.inl v2), none] _ _ _
  refine mw_iconst (pc' := 1) (v := 0) dX12_lowest_0 rfl (by decide) ?_
  refine mw_istore_n (pc' := 2) dX12_lowest_1 rfl (by decide) ?_
  show mW _ _ _ _ _ [some (.inr (some 47)), some (.inl v1), some (.inl v2), some (.inl 0)] _ _ _
  exact K

set_option maxRecDepth 100000 in
set_option maxHeartbeats 4000000 in
theorem qX12_lowest_2 {G : mG} {d : Nat} {b : Nat × Nat} {h : mH} {Q : Option mV → mH → Prop} (v1 : Int32) (v2 : Int32) (v3 : Int32) (hS : mSk h)
    (K : (((mI h 47 0) ≤ v3 → Q (some (.inl (-1))) h) ∧ (¬ ((mI h 47 0) ≤ v3) → ((¬ ((m_shr (mI h 47 51) v3) &&& 1) = 1 → mW G kX12_lowest d b 2 [some (.inr (some 47)), some (.inl v1), some (.inl v2), some (.inl (v3 + 1))] [] h Q) ∧ (((m_shr (mI h 47 51) v3) &&& 1) = 1 → vp_in ((1024 * v3) + v1) 8192 ∧ ((¬ (mI h 52 ((1024 * v3) + v1).toNatClampNeg) = v2 → mW G kX12_lowest d b 2 [some (.inr (some 47)), some (.inl v1), some (.inl v2), some (.inl (v3 + 1))] [] h Q) ∧ ((mI h 52 ((1024 * v3) + v1).toNatClampNeg) = v2 → Q (some (.inl v3)) h))))))) : mW G kX12_lowest d b 2 [some (.inr (some 47)), some (.inl v1), some (.inl v2), some (.inl v3)] [] h Q := by
  refine mw_iload_n (pc' := 3) dX12_lowest_2 rfl rfl ?_
  refine mw_aload_n (pc' := 4) dX12_lowest_3 rfl rfl ?_
  refine mw_getI (pc' := 7) dX12_lowest_4 rfl flX12_154 rfl (skT_47 hS) ?_
  refine mw_icmp_ge (pc' := 10) (tgt := 46) dX12_lowest_7 rfl (by decide) (fun c4 => ?_) (fun c4 => ?_)
  · replace K := K.1 c4
    refine mw_iconst (pc' := 47) (v := (-1)) dX12_lowest_46 rfl (by decide) ?_
    exact mw_iret dX12_lowest_47 rfl rfl K
  · replace K := K.2 c4
    refine mw_aload_n (pc' := 11) dX12_lowest_10 rfl rfl ?_
    refine mw_getI (pc' := 14) dX12_lowest_11 rfl flX12_403 rfl (skT_47 hS) ?_
    refine mw_iload_n (pc' := 15) dX12_lowest_14 rfl rfl ?_
    refine mw_ishrM (pc' := 16) dX12_lowest_15 rfl ?_
    refine mw_iconst (pc' := 17) (v := 1) dX12_lowest_16 rfl (by decide) ?_
    refine mw_iand (pc' := 18) dX12_lowest_17 rfl ?_
    refine mw_iconst (pc' := 19) (v := 1) dX12_lowest_18 rfl (by decide) ?_
    refine mw_icmp_ne (pc' := 22) (tgt := 40) dX12_lowest_19 rfl (by decide) (fun c3 => ?_) (fun c3 => ?_)
    · replace K := K.1 c3
      refine mw_iinc (pc' := 43) (v := v3 + 1) dX12_lowest_40 rfl (by decide) rfl rfl ?_
      show mW _ _ _ _ _ [some (.inr (some 47)), some (.inl v1), some (.inl v2), some (.inl (v3 + 1))] _ _ _
      refine mw_goto (tgt := 2) dX12_lowest_43 (by decide) ?_
      exact K
    · replace K := K.2 c3
      refine mw_aload_n (pc' := 23) dX12_lowest_22 rfl rfl ?_
      refine mw_getR (pc' := 26) dX12_lowest_23 rfl flX12_22 rfl (skT_47 hS) ?_
      rw [skR_47_5 hS]
      refine mw_sipush (pc' := 29) (v := 1024) dX12_lowest_26 rfl (by decide) ?_
      refine mw_iload_n (pc' := 30) dX12_lowest_29 rfl rfl ?_
      refine mw_imul (pc' := 31) dX12_lowest_30 rfl ?_
      refine mw_iload_n (pc' := 32) dX12_lowest_31 rfl rfl ?_
      refine mw_iadd (pc' := 33) dX12_lowest_32 rfl ?_
      obtain ⟨o1, K⟩ := K
      refine mw_baldL (pc' := 34) dX12_lowest_33 rfl (skT_52 hS) (skL_52 hS) o1 ?_
      refine mw_iload_n (pc' := 35) dX12_lowest_34 rfl rfl ?_
      refine mw_icmp_ne (pc' := 38) (tgt := 40) dX12_lowest_35 rfl (by decide) (fun c2 => ?_) (fun c2 => ?_)
      · replace K := K.1 c2
        refine mw_iinc (pc' := 43) (v := v3 + 1) dX12_lowest_40 rfl (by decide) rfl rfl ?_
        show mW _ _ _ _ _ [some (.inr (some 47)), some (.inl v1), some (.inl v2), some (.inl (v3 + 1))] _ _ _
        refine mw_goto (tgt := 2) dX12_lowest_43 (by decide) ?_
        exact K
      · replace K := K.2 c2
        refine mw_iload_n (pc' := 39) dX12_lowest_38 rfl rfl ?_
        exact mw_iret dX12_lowest_39 rfl rfl K

set_option maxRecDepth 100000 in
set_option maxHeartbeats 4000000 in
theorem qX12_isSurelyWater {G : mG} {d : Nat} {b : Nat × Nat} {h : mH} {Q : Option mV → mH → Prop} (v1 : Int32) (hS : mSk h)
    (K : mC G kX12_lowest d (0, 0) [.inr (some 47), .inl v1, .inl 1] h (fun r h1 => ∃ x2, r = some (.inl x2) ∧ mSk h1 ∧ ∀ w3 : Int32, w3 = (if ¬ x2 = (-1) then 0 else 1) → Q (some (.inl w3)) h1)) : mC G kX12_isSurelyWater (d + 1) b [.inr (some 47), .inl v1] h Q := by
  refine mC_in rfl (Nat.le_of_ble_eq_true rfl) ?_
  show mW _ _ _ _ _ [some (.inr (some 47)), some (.inl v1)] _ _ _
  refine mw_aload_n (pc' := 1) dX12_isSurelyWater_0 rfl rfl ?_
  refine mw_iload_n (pc' := 2) dX12_isSurelyWater_1 rfl rfl ?_
  refine mw_iconst (pc' := 3) (v := 1) dX12_isSurelyWater_2 rfl (by decide) ?_
  refine mw_callV (pc' := 6) (b' := (0, 0)) (b1 := b) (av := [.inl v1, .inl 1]) (rest := []) dX12_isSurelyWater_3 rfl lkX12_406 rfl rfl (Nat.le_of_ble_eq_true rfl) ⟨Nat.le_of_eq (Nat.zero_add _), Nat.le_of_eq (Nat.zero_add _)⟩ (skT_47 hS) ?_
  refine mC_mono (fun r h1 hr => ?_) K
  obtain ⟨x2, rfl, hS, K⟩ := hr
  show mW _ _ _ _ _ _ [.inl x2] _ _
  refine mw_iconst (pc' := 7) (v := (-1)) dX12_isSurelyWater_6 rfl (by decide) ?_
  have J4 : ∀ w3 : Int32, w3 = (if ¬ x2 = (-1) then 0 else 1) → mW G kX12_isSurelyWater (d + 1) b 15 [some (.inr (some 47)), some (.inl v1)] ([.inl w3]) h1 Q := by
    intro w3 ew3
    replace K := K w3 ew3
    exact mw_iret dX12_isSurelyWater_15 rfl (m_boolN (by rw [ew3]; exact (m_boolI m_bool0 m_bool1))) K
  refine mw_icmp_ne (pc' := 10) (tgt := 14) dX12_isSurelyWater_7 rfl (by decide) (fun c5 => ?_) (fun c5 => ?_)
  · refine mw_iconst (pc' := 15) (v := 0) dX12_isSurelyWater_14 rfl (by decide) ?_
    exact J4 _ (by rw [if_pos c5])
  · refine mw_iconst (pc' := 11) (v := 1) dX12_isSurelyWater_10 rfl (by decide) ?_
    refine mw_goto (tgt := 15) dX12_isSurelyWater_11 (by decide) ?_
    exact J4 _ (by rw [if_neg (fun z => z c5)])

set_option maxRecDepth 100000 in
set_option maxHeartbeats 4000000 in
theorem qX12_sure {G : mG} {d : Nat} {b : Nat × Nat} {h : mH} {Q : Option mV → mH → Prop} (v1 : Int32) (v2 : Int32) (v3 : Int32) (hS : mSk h)
    (K : (((f_X12_isCell v1 v2) = 0 → Q (some (.inl (-3))) h) ∧ (¬ (f_X12_isCell v1 v2) = 0 → ((¬ (f_X12_in v3 0 2) = 0 → mC G kX12_laysFitting (d + 7) (0, 0) [.inr (some 47)] h (fun r h1 => r = none ∧ mSk h1 ∧ ((¬ (mI h1 47 51) = 0 → mC G kX12_lowest (d + 7) (0, 0) [.inr (some 47), .inl ((32 * v2) + v1), .inl 1] h1 (fun r h2 => ∃ x3, r = some (.inl x3) ∧ mSk h2 ∧ mC G kX12_lowest (d + 7) (0, 0) [.inr (some 47), .inl ((32 * v2) + v1), .inl 0] h2 (fun r h4 => ∃ x5, r = some (.inl x5) ∧ mSk h4 ∧ ((v3 ≤ 0 → ∀ w6 : Int32, w6 = (if ¬ x5 = (-1) then (if ¬ x3 = (-1) then 2 else 1) else 0) → Q (some (.inl w6)) h4) ∧ (¬ (v3 ≤ 0) → ∀ w10 : Int32, w10 = (if ¬ v3 = 1 then x5 else x3) → Q (some (.inl w10)) h4))))) ∧ ((mI h1 47 51) = 0 → Q (some (.inl (-2))) h1)))) ∧ ((f_X12_in v3 0 2) = 0 → Q (some (.inl (-3))) h))))) : mC G kX12_sure (d + 8) b [.inr (some 47), .inl v1, .inl v2, .inl v3] h Q := by
  refine mC_in rfl (Nat.le_of_ble_eq_true rfl) ?_
  show mW _ _ _ _ _ [some (.inr (some 47)), some (.inl v1), some (.inl v2), some (.inl v3), none, none] _ _ _
  refine mw_iload_n (pc' := 1) dX12_sure_0 rfl rfl ?_
  refine mw_iload_n (pc' := 2) dX12_sure_1 rfl rfl ?_
  refine mw_callS (pc' := 5) (b' := (0, 0)) (b1 := b) (av := [.inl v1, .inl v2]) (rest := []) dX12_sure_2 rfl lkX12_190 rfl rfl (Nat.le_of_ble_eq_true rfl) ⟨Nat.le_of_eq (Nat.zero_add _), Nat.le_of_eq (Nat.zero_add _)⟩ ?_
  refine pX12_isCell ?_
  refine mw_if_eq (pc' := 8) (tgt := 17) dX12_sure_5 rfl (by decide) (fun c16 => ?_) (fun c16 => ?_)
  · replace K := K.1 c16
    refine mw_bipush (pc' := 19) (v := (-3)) dX12_sure_17 rfl (by decide) ?_
    exact mw_iret dX12_sure_19 rfl rfl K
  · replace K := K.2 c16
    refine mw_iload_n (pc' := 9) dX12_sure_8 rfl rfl ?_
    refine mw_iconst (pc' := 10) (v := 0) dX12_sure_9 rfl (by decide) ?_
    refine mw_iconst (pc' := 11) (v := 2) dX12_sure_10 rfl (by decide) ?_
    refine mw_callS (pc' := 14) (b' := (0, 0)) (b1 := b) (av := [.inl v3, .inl 0, .inl 2]) (rest := []) dX12_sure_11 rfl lkX12_173 rfl rfl (Nat.le_of_ble_eq_true rfl) ⟨Nat.le_of_eq (Nat.zero_add _), Nat.le_of_eq (Nat.zero_add _)⟩ ?_
    refine pX12_in ?_
    refine mw_if_ne (pc' := 17) (tgt := 20) dX12_sure_14 rfl (by decide) (fun c15 => ?_) (fun c15 => ?_)
    · replace K := K.1 c15
      refine mw_aload_n (pc' := 21) dX12_sure_20 rfl rfl ?_
      refine mw_callV (pc' := 24) (b' := (0, 0)) (b1 := b) (av := []) (rest := []) dX12_sure_21 rfl lkX12_410 rfl rfl (Nat.le_of_ble_eq_true rfl) ⟨Nat.le_of_eq (Nat.zero_add _), Nat.le_of_eq (Nat.zero_add _)⟩ (skT_47 hS) ?_
      refine mC_mono (fun r h1 hr => ?_) K
      obtain ⟨rfl, hS, K⟩ := hr
      show mW _ _ _ _ _ _ [] _ _
      refine mw_aload_n (pc' := 25) dX12_sure_24 rfl rfl ?_
      refine mw_getI (pc' := 28) dX12_sure_25 rfl flX12_403 rfl (skT_47 hS) ?_
      refine mw_if_ne (pc' := 31) (tgt := 34) dX12_sure_28 rfl (by decide) (fun c14 => ?_) (fun c14 => ?_)
      · replace K := K.1 c14
        refine mw_aload_n (pc' := 35) dX12_sure_34 rfl rfl ?_
        refine mw_bipush (pc' := 37) (v := 32) dX12_sure_35 rfl (by decide) ?_
        refine mw_iload_n (pc' := 38) dX12_sure_37 rfl rfl ?_
        refine mw_imul (pc' := 39) dX12_sure_38 rfl ?_
        refine mw_iload_n (pc' := 40) dX12_sure_39 rfl rfl ?_
        refine mw_iadd (pc' := 41) dX12_sure_40 rfl ?_
        refine mw_iconst (pc' := 42) (v := 1) dX12_sure_41 rfl (by decide) ?_
        refine mw_callV (pc' := 45) (b' := (0, 0)) (b1 := b) (av := [.inl ((32 * v2) + v1), .inl 1]) (rest := []) dX12_sure_42 rfl lkX12_406 rfl rfl (Nat.le_of_ble_eq_true rfl) ⟨Nat.le_of_eq (Nat.zero_add _), Nat.le_of_eq (Nat.zero_add _)⟩ (skT_47 hS) ?_
        refine mC_mono (fun r h2 hr => ?_) K
        obtain ⟨x3, rfl, hS, K⟩ := hr
        show mW _ _ _ _ _ _ [.inl x3] _ _
        refine mw_istore (pc' := 47) dX12_sure_45 rfl (by decide) ?_
        show mW _ _ _ _ _ [some (.inr (some 47)), some (.inl v1), some (.inl v2), some (.inl v3), some (.inl x3), none] _ _ _
        refine mw_aload_n (pc' := 48) dX12_sure_47 rfl rfl ?_
        refine mw_bipush (pc' := 50) (v := 32) dX12_sure_48 rfl (by decide) ?_
        refine mw_iload_n (pc' := 51) dX12_sure_50 rfl rfl ?_
        refine mw_imul (pc' := 52) dX12_sure_51 rfl ?_
        refine mw_iload_n (pc' := 53) dX12_sure_52 rfl rfl ?_
        refine mw_iadd (pc' := 54) dX12_sure_53 rfl ?_
        refine mw_iconst (pc' := 55) (v := 0) dX12_sure_54 rfl (by decide) ?_
        refine mw_callV (pc' := 58) (b' := (0, 0)) (b1 := b) (av := [.inl ((32 * v2) + v1), .inl 0]) (rest := []) dX12_sure_55 rfl lkX12_406 rfl rfl (Nat.le_of_ble_eq_true rfl) ⟨Nat.le_of_eq (Nat.zero_add _), Nat.le_of_eq (Nat.zero_add _)⟩ (skT_47 hS) ?_
        refine mC_mono (fun r h4 hr => ?_) K
        obtain ⟨x5, rfl, hS, K⟩ := hr
        show mW _ _ _ _ _ _ [.inl x5] _ _
        refine mw_istore (pc' := 60) dX12_sure_58 rfl (by decide) ?_
        show mW _ _ _ _ _ [some (.inr (some 47)), some (.inl v1), some (.inl v2), some (.inl v3), some (.inl x3), some (.inl x5)] _ _ _
        refine mw_iload_n (pc' := 61) dX12_sure_60 rfl rfl ?_
        refine mw_if_le (pc' := 64) (tgt := 77) dX12_sure_61 rfl (by decide) (fun c13 => ?_) (fun c13 => ?_)
        · replace K := K.1 c13
          refine mw_iload (pc' := 79) dX12_sure_77 rfl rfl ?_
          refine mw_iconst (pc' := 80) (v := (-1)) dX12_sure_79 rfl (by decide) ?_
          have J7 : ∀ w6 : Int32, w6 = (if ¬ x5 = (-1) then (if ¬ x3 = (-1) then 2 else 1) else 0) → mW G kX12_sure (d + 8) b 98 [some (.inr (some 47)), some (.inl v1), some (.inl v2), some (.inl v3), some (.inl x3), some (.inl x5)] ([.inl w6]) h4 Q := by
            intro w6 ew6
            replace K := K w6 ew6
            exact mw_iret dX12_sure_98 rfl rfl K
          refine mw_icmp_ne (pc' := 83) (tgt := 87) dX12_sure_80 rfl (by decide) (fun c8 => ?_) (fun c8 => ?_)
          · refine mw_iload (pc' := 89) dX12_sure_87 rfl rfl ?_
            refine mw_iconst (pc' := 90) (v := (-1)) dX12_sure_89 rfl (by decide) ?_
            refine mw_icmp_ne (pc' := 93) (tgt := 97) dX12_sure_90 rfl (by decide) (fun c9 => ?_) (fun c9 => ?_)
            · refine mw_iconst (pc' := 98) (v := 2) dX12_sure_97 rfl (by decide) ?_
              exact J7 _ (by rw [if_pos c8, if_pos c9])
            · refine mw_iconst (pc' := 94) (v := 1) dX12_sure_93 rfl (by decide) ?_
              refine mw_goto (tgt := 98) dX12_sure_94 (by decide) ?_
              exact J7 _ (by rw [if_pos c8, if_neg (fun z => z c9)])
          · refine mw_iconst (pc' := 84) (v := 0) dX12_sure_83 rfl (by decide) ?_
            refine mw_goto (tgt := 98) dX12_sure_84 (by decide) ?_
            exact J7 _ (by rw [if_neg (fun z => z c8)])
        · replace K := K.2 c13
          refine mw_iload_n (pc' := 65) dX12_sure_64 rfl rfl ?_
          refine mw_iconst (pc' := 66) (v := 1) dX12_sure_65 rfl (by decide) ?_
          have J11 : ∀ w10 : Int32, w10 = (if ¬ v3 = 1 then x5 else x3) → mW G kX12_sure (d + 8) b 76 [some (.inr (some 47)), some (.inl v1), some (.inl v2), some (.inl v3), some (.inl x3), some (.inl x5)] ([.inl w10]) h4 Q := by
            intro w10 ew10
            replace K := K w10 ew10
            exact mw_iret dX12_sure_76 rfl rfl K
          refine mw_icmp_ne (pc' := 69) (tgt := 74) dX12_sure_66 rfl (by decide) (fun c12 => ?_) (fun c12 => ?_)
          · refine mw_iload (pc' := 76) dX12_sure_74 rfl rfl ?_
            exact J11 _ (by rw [if_pos c12])
          · refine mw_iload (pc' := 71) dX12_sure_69 rfl rfl ?_
            refine mw_goto (tgt := 76) dX12_sure_71 (by decide) ?_
            exact J11 _ (by rw [if_neg (fun z => z c12)])
      · replace K := K.2 c14
        refine mw_bipush (pc' := 33) (v := (-2)) dX12_sure_31 rfl (by decide) ?_
        exact mw_iret dX12_sure_33 rfl rfl K
    · replace K := K.2 c15
      refine mw_bipush (pc' := 19) (v := (-3)) dX12_sure_17 rfl (by decide) ?_
      exact mw_iret dX12_sure_19 rfl rfl K

set_option maxRecDepth 100000 in
set_option maxHeartbeats 4000000 in
theorem qX12_choice {G : mG} {d : Nat} {b : Nat × Nat} {h : mH} {Q : Option mV → mH → Prop} (v1 : Int32) (v2 : Int32) (v3 : Int32) (v4 : Int32) (hS : mSk h)
    (K : (((f_X12_in v1 0 5) = 0 → Q (some (.inl 0)) h) ∧ (¬ (f_X12_in v1 0 5) = 0 → (((f_X12_in v2 (-9) 9) = 0 → Q (some (.inl 0)) h) ∧ (¬ (f_X12_in v2 (-9) 9) = 0 → (((f_X12_in v3 (-9) 9) = 0 → Q (some (.inl 0)) h) ∧ (¬ (f_X12_in v3 (-9) 9) = 0 → ((¬ (f_X12_isDirection v4) = 0 → vp_in v1 6 ∧ ∀ h2, h2 = mSI h 81 v1.toNatClampNeg v2 → vp_in v1 6 ∧ ∀ h4, h4 = mSI h2 82 v1.toNatClampNeg v3 → vp_in v1 6 ∧ ∀ h6, h6 = mSI h4 83 v1.toNatClampNeg v4 → ∀ h7, h7 = mSI h6 47 52 ((mI h6 47 52) ||| (m_shl 1 v1)) → Q (some (.inl 1)) h7) ∧ ((f_X12_isDirection v4) = 0 → Q (some (.inl 0)) h))))))))) : mC G kX12_choice (d + 1) b [.inr (some 47), .inl v1, .inl v2, .inl v3, .inl v4] h Q := by
  refine mC_in rfl (Nat.le_of_ble_eq_true rfl) ?_
  show mW _ _ _ _ _ [some (.inr (some 47)), some (.inl v1), some (.inl v2), some (.inl v3), some (.inl v4)] _ _ _
  refine mw_iload_n (pc' := 1) dX12_choice_0 rfl rfl ?_
  refine mw_iconst (pc' := 2) (v := 0) dX12_choice_1 rfl (by decide) ?_
  refine mw_iconst (pc' := 3) (v := 5) dX12_choice_2 rfl (by decide) ?_
  refine mw_callS (pc' := 6) (b' := (0, 0)) (b1 := b) (av := [.inl v1, .inl 0, .inl 5]) (rest := []) dX12_choice_3 rfl lkX12_173 rfl rfl (Nat.le_of_ble_eq_true rfl) ⟨Nat.le_of_eq (Nat.zero_add _), Nat.le_of_eq (Nat.zero_add _)⟩ ?_
  refine pX12_in ?_
  refine mw_if_eq (pc' := 9) (tgt := 39) dX12_choice_6 rfl (by decide) (fun c11 => ?_) (fun c11 => ?_)
  · replace K := K.1 c11
    refine mw_iconst (pc' := 40) (v := 0) dX12_choice_39 rfl (by decide) ?_
    exact mw_iret dX12_choice_40 rfl (by decide) K
  · replace K := K.2 c11
    refine mw_iload_n (pc' := 10) dX12_choice_9 rfl rfl ?_
    refine mw_bipush (pc' := 12) (v := (-9)) dX12_choice_10 rfl (by decide) ?_
    refine mw_bipush (pc' := 14) (v := 9) dX12_choice_12 rfl (by decide) ?_
    refine mw_callS (pc' := 17) (b' := (0, 0)) (b1 := b) (av := [.inl v2, .inl (-9), .inl 9]) (rest := []) dX12_choice_14 rfl lkX12_173 rfl rfl (Nat.le_of_ble_eq_true rfl) ⟨Nat.le_of_eq (Nat.zero_add _), Nat.le_of_eq (Nat.zero_add _)⟩ ?_
    refine pX12_in ?_
    refine mw_if_eq (pc' := 20) (tgt := 39) dX12_choice_17 rfl (by decide) (fun c10 => ?_) (fun c10 => ?_)
    · replace K := K.1 c10
      refine mw_iconst (pc' := 40) (v := 0) dX12_choice_39 rfl (by decide) ?_
      exact mw_iret dX12_choice_40 rfl (by decide) K
    · replace K := K.2 c10
      refine mw_iload_n (pc' := 21) dX12_choice_20 rfl rfl ?_
      refine mw_bipush (pc' := 23) (v := (-9)) dX12_choice_21 rfl (by decide) ?_
      refine mw_bipush (pc' := 25) (v := 9) dX12_choice_23 rfl (by decide) ?_
      refine mw_callS (pc' := 28) (b' := (0, 0)) (b1 := b) (av := [.inl v3, .inl (-9), .inl 9]) (rest := []) dX12_choice_25 rfl lkX12_173 rfl rfl (Nat.le_of_ble_eq_true rfl) ⟨Nat.le_of_eq (Nat.zero_add _), Nat.le_of_eq (Nat.zero_add _)⟩ ?_
      refine pX12_in ?_
      refine mw_if_eq (pc' := 31) (tgt := 39) dX12_choice_28 rfl (by decide) (fun c9 => ?_) (fun c9 => ?_)
      · replace K := K.1 c9
        refine mw_iconst (pc' := 40) (v := 0) dX12_choice_39 rfl (by decide) ?_
        exact mw_iret dX12_choice_40 rfl (by decide) K
      · replace K := K.2 c9
        refine mw_iload (pc' := 33) dX12_choice_31 rfl rfl ?_
        refine mw_callS (pc' := 36) (b' := (0, 0)) (b1 := b) (av := [.inl v4]) (rest := []) dX12_choice_33 rfl lkX12_212 rfl rfl (Nat.le_of_ble_eq_true rfl) ⟨Nat.le_of_eq (Nat.zero_add _), Nat.le_of_eq (Nat.zero_add _)⟩ ?_
        refine pX12_isDirection ?_
        refine mw_if_ne (pc' := 39) (tgt := 41) dX12_choice_36 rfl (by decide) (fun c8 => ?_) (fun c8 => ?_)
        · replace K := K.1 c8
          refine mw_aload_n (pc' := 42) dX12_choice_41 rfl rfl ?_
          refine mw_getR (pc' := 45) dX12_choice_42 rfl flX12_111 rfl (skT_47 hS) ?_
          rw [skR_47_54 hS]
          refine mw_iload_n (pc' := 46) dX12_choice_45 rfl rfl ?_
          refine mw_iload_n (pc' := 47) dX12_choice_46 rfl rfl ?_
          obtain ⟨o1, K⟩ := K
          refine mw_iastK (pc' := 48) dX12_choice_47 rfl (skT_81 hS) (skL_81 hS) o1 hS (fun h2 eh2 hS => ?_)
          replace K := K h2 eh2
          refine mw_aload_n (pc' := 49) dX12_choice_48 rfl rfl ?_
          refine mw_getR (pc' := 52) dX12_choice_49 rfl flX12_114 rfl (skT_47 hS) ?_
          rw [skR_47_55 hS]
          refine mw_iload_n (pc' := 53) dX12_choice_52 rfl rfl ?_
          refine mw_iload_n (pc' := 54) dX12_choice_53 rfl rfl ?_
          obtain ⟨o3, K⟩ := K
          refine mw_iastK (pc' := 55) dX12_choice_54 rfl (skT_82 hS) (skL_82 hS) o3 hS (fun h4 eh4 hS => ?_)
          replace K := K h4 eh4
          refine mw_aload_n (pc' := 56) dX12_choice_55 rfl rfl ?_
          refine mw_getR (pc' := 59) dX12_choice_56 rfl flX12_117 rfl (skT_47 hS) ?_
          rw [skR_47_56 hS]
          refine mw_iload_n (pc' := 60) dX12_choice_59 rfl rfl ?_
          refine mw_iload (pc' := 62) dX12_choice_60 rfl rfl ?_
          obtain ⟨o5, K⟩ := K
          refine mw_iastK (pc' := 63) dX12_choice_62 rfl (skT_83 hS) (skL_83 hS) o5 hS (fun h6 eh6 hS => ?_)
          replace K := K h6 eh6
          refine mw_aload_n (pc' := 64) dX12_choice_63 rfl rfl ?_
          refine mw_aload_n (pc' := 65) dX12_choice_64 rfl rfl ?_
          refine mw_getI (pc' := 68) dX12_choice_65 rfl flX12_413 rfl (skT_47 hS) ?_
          refine mw_iconst (pc' := 69) (v := 1) dX12_choice_68 rfl (by decide) ?_
          refine mw_iload_n (pc' := 70) dX12_choice_69 rfl rfl ?_
          refine mw_ishlM (pc' := 71) dX12_choice_70 rfl ?_
          refine mw_ior (pc' := 72) dX12_choice_71 rfl ?_
          refine mw_putIK (pc' := 75) dX12_choice_72 rfl flX12_413 rfl (Or.inl rfl) ⟨rfl, rfl⟩ (skT_47 hS) hS (fun h7 eh7 hS => ?_)
          replace K := K h7 eh7
          refine mw_iconst (pc' := 76) (v := 1) dX12_choice_75 rfl (by decide) ?_
          exact mw_iret dX12_choice_76 rfl (by decide) K
        · replace K := K.2 c8
          refine mw_iconst (pc' := 40) (v := 0) dX12_choice_39 rfl (by decide) ?_
          exact mw_iret dX12_choice_40 rfl (by decide) K

set_option maxRecDepth 100000 in
set_option maxHeartbeats 4000000 in
theorem qX12_laysStates {G : mG} {d : Nat} {b : Nat × Nat} {h : mH} {Q : Option mV → mH → Prop}  (hS : mSk h)
    (K : ∀ h1, h1 = mSI h 47 53 0 → mW G kX12_laysStates (d + 7) b 7 [some (.inr (some 47)), some (.inl 0), none] [] h1 Q) : mC G kX12_laysStates (d + 7) b [.inr (some 47)] h Q := by
  refine mC_in rfl (Nat.le_of_ble_eq_true rfl) ?_
  show mW _ _ _ _ _ [some (.inr (some 47)), none, none] _ _ _
  refine mw_aload_n (pc' := 1) dX12_laysStates_0 rfl rfl ?_
  refine mw_iconst (pc' := 2) (v := 0) dX12_laysStates_1 rfl (by decide) ?_
  refine mw_putIK (pc' := 5) dX12_laysStates_2 rfl flX12_416 rfl (Or.inl rfl) ⟨rfl, rfl⟩ (skT_47 hS) hS (fun h1 eh1 hS => ?_)
  replace K := K h1 eh1
  refine mw_iconst (pc' := 6) (v := 0) dX12_laysStates_5 rfl (by decide) ?_
  refine mw_istore_n (pc' := 7) dX12_laysStates_6 rfl (by decide) ?_
  show mW _ _ _ _ _ [some (.inr (some 47)), some (.inl 0), none] _ _ _
  exact K

set_option maxRecDepth 100000 in
set_option maxHeartbeats 4000000 in
theorem qX12_laysStates_7 {G : mG} {d : Nat} {b : Nat × Nat} {h : mH} {Q : Option mV → mH → Prop} (v1 : Int32) (hS : mSk h)
    (K : (((mI h 47 0) ≤ v1 → Q none h) ∧ (¬ ((mI h 47 0) ≤ v1) → (((mI h 47 33) ≤ 0 → Q none h) ∧ (¬ ((mI h 47 33) ≤ 0) → mC G kX12_laysPossible (d + 6) (0, 0) [.inr (some 47), .inl v1] h (fun r h1 => r = none ∧ mSk h1 ∧ mW G kX12_laysStates (d + 7) b 29 [some (.inr (some 47)), some (.inl v1), some (.inl 0)] [] h1 Q)))))) : mW G kX12_laysStates (d + 7) b 7 [some (.inr (some 47)), some (.inl v1), none] [] h Q := by
  refine mw_iload_n (pc' := 8) dX12_laysStates_7 rfl rfl ?_
  refine mw_aload_n (pc' := 9) dX12_laysStates_8 rfl rfl ?_
  refine mw_getI (pc' := 12) dX12_laysStates_9 rfl flX12_154 rfl (skT_47 hS) ?_
  refine mw_icmp_ge (pc' := 15) (tgt := 95) dX12_laysStates_12 rfl (by decide) (fun c3 => ?_) (fun c3 => ?_)
  · replace K := K.1 c3
    exact mw_ret dX12_laysStates_95 rfl K
  · replace K := K.2 c3
    refine mw_aload_n (pc' := 16) dX12_laysStates_15 rfl rfl ?_
    refine mw_getI (pc' := 19) dX12_laysStates_16 rfl flX12_340 rfl (skT_47 hS) ?_
    refine mw_if_le (pc' := 22) (tgt := 95) dX12_laysStates_19 rfl (by decide) (fun c2 => ?_) (fun c2 => ?_)
    · replace K := K.1 c2
      exact mw_ret dX12_laysStates_95 rfl K
    · replace K := K.2 c2
      refine mw_aload_n (pc' := 23) dX12_laysStates_22 rfl rfl ?_
      refine mw_iload_n (pc' := 24) dX12_laysStates_23 rfl rfl ?_
      refine mw_callV (pc' := 27) (b' := (0, 0)) (b1 := b) (av := [.inl v1]) (rest := []) dX12_laysStates_24 rfl lkX12_391 rfl rfl (Nat.le_of_ble_eq_true rfl) ⟨Nat.le_of_eq (Nat.zero_add _), Nat.le_of_eq (Nat.zero_add _)⟩ (skT_47 hS) ?_
      refine mC_mono (fun r h1 hr => ?_) K
      obtain ⟨rfl, hS, K⟩ := hr
      show mW _ _ _ _ _ _ [] _ _
      refine mw_iconst (pc' := 28) (v := 0) dX12_laysStates_27 rfl (by decide) ?_
      refine mw_istore_n (pc' := 29) dX12_laysStates_28 rfl (by decide) ?_
      show mW _ _ _ _ _ [some (.inr (some 47)), some (.inl v1), some (.inl 0)] _ _ _
      exact K

set_option maxRecDepth 100000 in
set_option maxHeartbeats 4000000 in
theorem qX12_laysStates_29 {G : mG} {d : Nat} {b : Nat × Nat} {h : mH} {Q : Option mV → mH → Prop} (v1 : Int32) (v2 : Int32) (hS : mSk h)
    (K : ((1024 ≤ v2 → mW G kX12_laysStates (d + 7) b 7 [some (.inr (some 47)), some (.inl (v1 + 1)), none] [] h Q) ∧ (¬ (1024 ≤ v2) → mC G kX12_isThere (d + 6) (0, 0) [.inr (some 47), .inl ((mI h 47 33) - 1), .inl v2] h (fun r h1 => ∃ x2, r = some (.inl x2) ∧ mSk h1 ∧ ((¬ x2 = 0 → vp_in (mI h1 47 53) 8192 ∧ ∀ h4, h4 = mSI h1 84 (mI h1 47 53).toNatClampNeg v1 → vp_in (mI h4 47 53) 8192 ∧ ∀ h6, h6 = mSI h4 85 (mI h4 47 53).toNatClampNeg v2 → ∀ h7, h7 = mSI h6 47 53 ((mI h6 47 53) + 1) → mW G kX12_laysStates (d + 7) b 29 [some (.inr (some 47)), some (.inl v1), some (.inl (v2 + 1))] [] h7 Q) ∧ (x2 = 0 → mW G kX12_laysStates (d + 7) b 29 [some (.inr (some 47)), some (.inl v1), some (.inl (v2 + 1))] [] h1 Q)))))) : mW G kX12_laysStates (d + 7) b 29 [some (.inr (some 47)), some (.inl v1), some (.inl v2)] [] h Q := by
  refine mw_iload_n (pc' := 30) dX12_laysStates_29 rfl rfl ?_
  refine mw_sipush (pc' := 33) (v := 1024) dX12_laysStates_30 rfl (by decide) ?_
  refine mw_icmp_ge (pc' := 36) (tgt := 89) dX12_laysStates_33 rfl (by decide) (fun c9 => ?_) (fun c9 => ?_)
  · replace K := K.1 c9
    refine mw_iinc (pc' := 92) (v := v1 + 1) dX12_laysStates_89 rfl (by decide) rfl rfl ?_
    show mW _ _ _ _ _ [some (.inr (some 47)), some (.inl (v1 + 1)), some (.inl v2)] _ _ _
    refine mw_goto (tgt := 7) dX12_laysStates_92 (by decide) ?_
    refine mw_weak (ls' := [some (.inr (some 47)), some (.inl (v1 + 1)), none]) ?_ ?_
    · intro i v hv; match i, hv with
      | 0, hv => exact hv
      | 1, hv => exact hv
      | 2, hv => cases hv
      | n + 3, hv => cases hv
    exact K
  · replace K := K.2 c9
    refine mw_aload_n (pc' := 37) dX12_laysStates_36 rfl rfl ?_
    refine mw_aload_n (pc' := 38) dX12_laysStates_37 rfl rfl ?_
    refine mw_getI (pc' := 41) dX12_laysStates_38 rfl flX12_340 rfl (skT_47 hS) ?_
    refine mw_iconst (pc' := 42) (v := 1) dX12_laysStates_41 rfl (by decide) ?_
    refine mw_isub (pc' := 43) dX12_laysStates_42 rfl ?_
    refine mw_iload_n (pc' := 44) dX12_laysStates_43 rfl rfl ?_
    refine mw_callV (pc' := 47) (b' := (0, 0)) (b1 := b) (av := [.inl ((mI h 47 33) - 1), .inl v2]) (rest := []) dX12_laysStates_44 rfl lkX12_394 rfl rfl (Nat.le_of_ble_eq_true rfl) ⟨Nat.le_of_eq (Nat.zero_add _), Nat.le_of_eq (Nat.zero_add _)⟩ (skT_47 hS) ?_
    refine mC_mono (fun r h1 hr => ?_) K
    obtain ⟨x2, rfl, hS, K⟩ := hr
    show mW _ _ _ _ _ _ [.inl x2] _ _
    refine mw_if_ne (pc' := 50) (tgt := 53) dX12_laysStates_47 rfl (by decide) (fun c8 => ?_) (fun c8 => ?_)
    · replace K := K.1 c8
      refine mw_aload_n (pc' := 54) dX12_laysStates_53 rfl rfl ?_
      refine mw_getR (pc' := 57) dX12_laysStates_54 rfl flX12_120 rfl (skT_47 hS) ?_
      rw [skR_47_57 hS]
      refine mw_aload_n (pc' := 58) dX12_laysStates_57 rfl rfl ?_
      refine mw_getI (pc' := 61) dX12_laysStates_58 rfl flX12_416 rfl (skT_47 hS) ?_
      refine mw_iload_n (pc' := 62) dX12_laysStates_61 rfl rfl ?_
      obtain ⟨o3, K⟩ := K
      refine mw_iastK (pc' := 63) dX12_laysStates_62 rfl (skT_84 hS) (skL_84 hS) o3 hS (fun h4 eh4 hS => ?_)
      replace K := K h4 eh4
      refine mw_aload_n (pc' := 64) dX12_laysStates_63 rfl rfl ?_
      refine mw_getR (pc' := 67) dX12_laysStates_64 rfl flX12_123 rfl (skT_47 hS) ?_
      rw [skR_47_58 hS]
      refine mw_aload_n (pc' := 68) dX12_laysStates_67 rfl rfl ?_
      refine mw_getI (pc' := 71) dX12_laysStates_68 rfl flX12_416 rfl (skT_47 hS) ?_
      refine mw_iload_n (pc' := 72) dX12_laysStates_71 rfl rfl ?_
      obtain ⟨o5, K⟩ := K
      refine mw_iastK (pc' := 73) dX12_laysStates_72 rfl (skT_85 hS) (skL_85 hS) o5 hS (fun h6 eh6 hS => ?_)
      replace K := K h6 eh6
      refine mw_aload_n (pc' := 74) dX12_laysStates_73 rfl rfl ?_
      refine mw_aload_n (pc' := 75) dX12_laysStates_74 rfl rfl ?_
      refine mw_getI (pc' := 78) dX12_laysStates_75 rfl flX12_416 rfl (skT_47 hS) ?_
      refine mw_iconst (pc' := 79) (v := 1) dX12_laysStates_78 rfl (by decide) ?_
      refine mw_iadd (pc' := 80) dX12_laysStates_79 rfl ?_
      refine mw_putIK (pc' := 83) dX12_laysStates_80 rfl flX12_416 rfl (Or.inl rfl) ⟨rfl, rfl⟩ (skT_47 hS) hS (fun h7 eh7 hS => ?_)
      replace K := K h7 eh7
      refine mw_iinc (pc' := 86) (v := v2 + 1) dX12_laysStates_83 rfl (by decide) rfl rfl ?_
      show mW _ _ _ _ _ [some (.inr (some 47)), some (.inl v1), some (.inl (v2 + 1))] _ _ _
      refine mw_goto (tgt := 29) dX12_laysStates_86 (by decide) ?_
      exact K
    · replace K := K.2 c8
      refine mw_goto (tgt := 83) dX12_laysStates_50 (by decide) ?_
      refine mw_iinc (pc' := 86) (v := v2 + 1) dX12_laysStates_83 rfl (by decide) rfl rfl ?_
      show mW _ _ _ _ _ [some (.inr (some 47)), some (.inl v1), some (.inl (v2 + 1))] _ _ _
      refine mw_goto (tgt := 29) dX12_laysStates_86 (by decide) ?_
      exact K

set_option maxRecDepth 100000 in
set_option maxHeartbeats 4000000 in
theorem qX12_isChoice {G : mG} {d : Nat} {b : Nat × Nat} {h : mH} {Q : Option mV → mH → Prop} (v1 : Int32) (hS : mSk h)
    (K : ∀ w1 : Int32, w1 = (if ¬ ((m_shr (mI h 47 52) v1) &&& 1) = 1 then 0 else 1) → Q (some (.inl w1)) h) : mC G kX12_isChoice d b [.inr (some 47), .inl v1] h Q := by
  refine mC_in rfl (Nat.le_of_ble_eq_true rfl) ?_
  show mW _ _ _ _ _ [some (.inr (some 47)), some (.inl v1)] _ _ _
  refine mw_aload_n (pc' := 1) dX12_isChoice_0 rfl rfl ?_
  refine mw_getI (pc' := 4) dX12_isChoice_1 rfl flX12_413 rfl (skT_47 hS) ?_
  refine mw_iload_n (pc' := 5) dX12_isChoice_4 rfl rfl ?_
  refine mw_ishrM (pc' := 6) dX12_isChoice_5 rfl ?_
  refine mw_iconst (pc' := 7) (v := 1) dX12_isChoice_6 rfl (by decide) ?_
  refine mw_iand (pc' := 8) dX12_isChoice_7 rfl ?_
  refine mw_iconst (pc' := 9) (v := 1) dX12_isChoice_8 rfl (by decide) ?_
  have J2 : ∀ w1 : Int32, w1 = (if ¬ ((m_shr (mI h 47 52) v1) &&& 1) = 1 then 0 else 1) → mW G kX12_isChoice d b 17 [some (.inr (some 47)), some (.inl v1)] ([.inl w1]) h Q := by
    intro w1 ew1
    replace K := K w1 ew1
    exact mw_iret dX12_isChoice_17 rfl (m_boolN (by rw [ew1]; exact (m_boolI m_bool0 m_bool1))) K
  refine mw_icmp_ne (pc' := 12) (tgt := 16) dX12_isChoice_9 rfl (by decide) (fun c3 => ?_) (fun c3 => ?_)
  · refine mw_iconst (pc' := 17) (v := 0) dX12_isChoice_16 rfl (by decide) ?_
    exact J2 _ (by rw [if_pos c3])
  · refine mw_iconst (pc' := 13) (v := 1) dX12_isChoice_12 rfl (by decide) ?_
    refine mw_goto (tgt := 17) dX12_isChoice_13 (by decide) ?_
    exact J2 _ (by rw [if_neg (fun z => z c3)])

set_option maxRecDepth 100000 in
set_option maxHeartbeats 4000000 in
theorem qX12_movedBy {G : mG} {d : Nat} {b : Nat × Nat} {h : mH} {Q : Option mV → mH → Prop} (v1 : Int32) (v2 : Int32) (v3 : Int32) (hS : mSk h)
    (K : vp_in v3 6 ∧ vp_in v3 6 ∧ (((f_X12_isCell ((m_rem v2 32) + (mI h 81 v3.toNatClampNeg)) ((v2 / 32) + (mI h 82 v3.toNatClampNeg))) = 0 → Q (some (.inl (-1))) h) ∧ (¬ (f_X12_isCell ((m_rem v2 32) + (mI h 81 v3.toNatClampNeg)) ((v2 / 32) + (mI h 82 v3.toNatClampNeg))) = 0 → mC G kX12_isLandAt d (0, 0) [.inr (some 47), .inl v1, .inl ((m_rem v2 32) + (mI h 81 v3.toNatClampNeg)), .inl ((v2 / 32) + (mI h 82 v3.toNatClampNeg))] h (fun r h3 => ∃ x4, r = some (.inl x4) ∧ mSk h3 ∧ ∀ w5 : Int32, w5 = (if x4 = 0 then ((32 * ((v2 / 32) + (mI h 82 v3.toNatClampNeg))) + ((m_rem v2 32) + (mI h 81 v3.toNatClampNeg))) else (-1)) → Q (some (.inl w5)) h3)))) : mC G kX12_movedBy (d + 1) b [.inr (some 47), .inl v1, .inl v2, .inl v3] h Q := by
  refine mC_in rfl (Nat.le_of_ble_eq_true rfl) ?_
  show mW _ _ _ _ _ [some (.inr (some 47)), some (.inl v1), some (.inl v2), some (.inl v3), none, none] _ _ _
  refine mw_iload_n (pc' := 1) dX12_movedBy_0 rfl rfl ?_
  refine mw_bipush (pc' := 3) (v := 32) dX12_movedBy_1 rfl (by decide) ?_
  refine mw_iremM (pc' := 4) dX12_movedBy_3 rfl (by decide) ?_
  refine mw_aload_n (pc' := 5) dX12_movedBy_4 rfl rfl ?_
  refine mw_getR (pc' := 8) dX12_movedBy_5 rfl flX12_111 rfl (skT_47 hS) ?_
  rw [skR_47_54 hS]
  refine mw_iload_n (pc' := 9) dX12_movedBy_8 rfl rfl ?_
  obtain ⟨o1, K⟩ := K
  refine mw_ialdL (pc' := 10) dX12_movedBy_9 rfl (skT_81 hS) (skL_81 hS) o1 ?_
  refine mw_iadd (pc' := 11) dX12_movedBy_10 rfl ?_
  refine mw_istore (pc' := 13) dX12_movedBy_11 rfl (by decide) ?_
  show mW _ _ _ _ _ [some (.inr (some 47)), some (.inl v1), some (.inl v2), some (.inl v3), some (.inl ((m_rem v2 32) + (mI h 81 v3.toNatClampNeg))), none] _ _ _
  refine mw_iload_n (pc' := 14) dX12_movedBy_13 rfl rfl ?_
  refine mw_bipush (pc' := 16) (v := 32) dX12_movedBy_14 rfl (by decide) ?_
  refine mw_idiv (pc' := 17) dX12_movedBy_16 rfl (by decide) ?_
  refine mw_aload_n (pc' := 18) dX12_movedBy_17 rfl rfl ?_
  refine mw_getR (pc' := 21) dX12_movedBy_18 rfl flX12_114 rfl (skT_47 hS) ?_
  rw [skR_47_55 hS]
  refine mw_iload_n (pc' := 22) dX12_movedBy_21 rfl rfl ?_
  obtain ⟨o2, K⟩ := K
  refine mw_ialdL (pc' := 23) dX12_movedBy_22 rfl (skT_82 hS) (skL_82 hS) o2 ?_
  refine mw_iadd (pc' := 24) dX12_movedBy_23 rfl ?_
  refine mw_istore (pc' := 26) dX12_movedBy_24 rfl (by decide) ?_
  show mW _ _ _ _ _ [some (.inr (some 47)), some (.inl v1), some (.inl v2), some (.inl v3), some (.inl ((m_rem v2 32) + (mI h 81 v3.toNatClampNeg))), some (.inl ((v2 / 32) + (mI h 82 v3.toNatClampNeg)))] _ _ _
  refine mw_iload (pc' := 28) dX12_movedBy_26 rfl rfl ?_
  refine mw_iload (pc' := 30) dX12_movedBy_28 rfl rfl ?_
  refine mw_callS (pc' := 33) (b' := (0, 0)) (b1 := b) (av := [.inl ((m_rem v2 32) + (mI h 81 v3.toNatClampNeg)), .inl ((v2 / 32) + (mI h 82 v3.toNatClampNeg))]) (rest := []) dX12_movedBy_30 rfl lkX12_190 rfl rfl (Nat.le_of_ble_eq_true rfl) ⟨Nat.le_of_eq (Nat.zero_add _), Nat.le_of_eq (Nat.zero_add _)⟩ ?_
  refine pX12_isCell ?_
  refine mw_if_eq (pc' := 36) (tgt := 48) dX12_movedBy_33 rfl (by decide) (fun c8 => ?_) (fun c8 => ?_)
  · replace K := K.1 c8
    refine mw_iconst (pc' := 49) (v := (-1)) dX12_movedBy_48 rfl (by decide) ?_
    refine mw_goto (tgt := 60) dX12_movedBy_49 (by decide) ?_
    exact mw_iret dX12_movedBy_60 rfl rfl K
  · replace K := K.2 c8
    refine mw_aload_n (pc' := 37) dX12_movedBy_36 rfl rfl ?_
    refine mw_iload_n (pc' := 38) dX12_movedBy_37 rfl rfl ?_
    refine mw_iload (pc' := 40) dX12_movedBy_38 rfl rfl ?_
    refine mw_iload (pc' := 42) dX12_movedBy_40 rfl rfl ?_
    refine mw_callV (pc' := 45) (b' := (0, 0)) (b1 := b) (av := [.inl v1, .inl ((m_rem v2 32) + (mI h 81 v3.toNatClampNeg)), .inl ((v2 / 32) + (mI h 82 v3.toNatClampNeg))]) (rest := []) dX12_movedBy_42 rfl lkX12_193 rfl rfl (Nat.le_of_ble_eq_true rfl) ⟨Nat.le_of_eq (Nat.zero_add _), Nat.le_of_eq (Nat.zero_add _)⟩ (skT_47 hS) ?_
    refine mC_mono (fun r h3 hr => ?_) K
    obtain ⟨x4, rfl, hS, K⟩ := hr
    show mW _ _ _ _ _ _ [.inl x4] _ _
    have J6 : ∀ w5 : Int32, w5 = (if x4 = 0 then ((32 * ((v2 / 32) + (mI h 82 v3.toNatClampNeg))) + ((m_rem v2 32) + (mI h 81 v3.toNatClampNeg))) else (-1)) → mW G kX12_movedBy (d + 1) b 60 [some (.inr (some 47)), some (.inl v1), some (.inl v2), some (.inl v3), some (.inl ((m_rem v2 32) + (mI h 81 v3.toNatClampNeg))), some (.inl ((v2 / 32) + (mI h 82 v3.toNatClampNeg)))] ([.inl w5]) h3 Q := by
      intro w5 ew5
      replace K := K w5 ew5
      exact mw_iret dX12_movedBy_60 rfl rfl K
    refine mw_if_eq (pc' := 48) (tgt := 52) dX12_movedBy_45 rfl (by decide) (fun c7 => ?_) (fun c7 => ?_)
    · refine mw_bipush (pc' := 54) (v := 32) dX12_movedBy_52 rfl (by decide) ?_
      refine mw_iload (pc' := 56) dX12_movedBy_54 rfl rfl ?_
      refine mw_imul (pc' := 57) dX12_movedBy_56 rfl ?_
      refine mw_iload (pc' := 59) dX12_movedBy_57 rfl rfl ?_
      refine mw_iadd (pc' := 60) dX12_movedBy_59 rfl ?_
      exact J6 _ (by rw [if_pos c7])
    · refine mw_iconst (pc' := 49) (v := (-1)) dX12_movedBy_48 rfl (by decide) ?_
      refine mw_goto (tgt := 60) dX12_movedBy_49 (by decide) ?_
      exact J6 _ (by rw [if_neg c7])

set_option maxRecDepth 100000 in
set_option maxHeartbeats 4000000 in
theorem qX12_countAt {G : mG} {d : Nat} {b : Nat × Nat} {h : mH} {Q : Option mV → mH → Prop} (v1 : Int32) (v2 : Int32) (v3 : Int32) (hS : mSk h)
    (K : vp_in v3 6 ∧ mC G kX12_echoOf (d + 3) (0, 0) [.inr (some 47), .inl v1, .inl (m_rem v2 32), .inl (v2 / 32), .inl (mI h 83 v3.toNatClampNeg)] h (fun r h2 => ∃ x3, r = some (.inl x3) ∧ mSk h2 ∧ Q (some (.inl x3)) h2)) : mC G kX12_countAt (d + 4) b [.inr (some 47), .inl v1, .inl v2, .inl v3] h Q := by
  refine mC_in rfl (Nat.le_of_ble_eq_true rfl) ?_
  show mW _ _ _ _ _ [some (.inr (some 47)), some (.inl v1), some (.inl v2), some (.inl v3)] _ _ _
  refine mw_aload_n (pc' := 1) dX12_countAt_0 rfl rfl ?_
  refine mw_iload_n (pc' := 2) dX12_countAt_1 rfl rfl ?_
  refine mw_iload_n (pc' := 3) dX12_countAt_2 rfl rfl ?_
  refine mw_bipush (pc' := 5) (v := 32) dX12_countAt_3 rfl (by decide) ?_
  refine mw_iremM (pc' := 6) dX12_countAt_5 rfl (by decide) ?_
  refine mw_iload_n (pc' := 7) dX12_countAt_6 rfl rfl ?_
  refine mw_bipush (pc' := 9) (v := 32) dX12_countAt_7 rfl (by decide) ?_
  refine mw_idiv (pc' := 10) dX12_countAt_9 rfl (by decide) ?_
  refine mw_aload_n (pc' := 11) dX12_countAt_10 rfl rfl ?_
  refine mw_getR (pc' := 14) dX12_countAt_11 rfl flX12_117 rfl (skT_47 hS) ?_
  rw [skR_47_56 hS]
  refine mw_iload_n (pc' := 15) dX12_countAt_14 rfl rfl ?_
  obtain ⟨o1, K⟩ := K
  refine mw_ialdL (pc' := 16) dX12_countAt_15 rfl (skT_83 hS) (skL_83 hS) o1 ?_
  refine mw_callV (pc' := 19) (b' := (0, 0)) (b1 := b) (av := [.inl v1, .inl (m_rem v2 32), .inl (v2 / 32), .inl (mI h 83 v3.toNatClampNeg)]) (rest := []) dX12_countAt_16 rfl lkX12_215 rfl rfl (Nat.le_of_ble_eq_true rfl) ⟨Nat.le_of_eq (Nat.zero_add _), Nat.le_of_eq (Nat.zero_add _)⟩ (skT_47 hS) ?_
  refine mC_mono (fun r h2 hr => ?_) K
  obtain ⟨x3, rfl, hS, K⟩ := hr
  show mW _ _ _ _ _ _ [.inl x3] _ _
  exact mw_iret dX12_countAt_19 rfl rfl K

set_option maxRecDepth 100000 in
set_option maxHeartbeats 4000000 in
theorem qX12_mayBeSilent {G : mG} {d : Nat} {b : Nat × Nat} {h : mH} {Q : Option mV → mH → Prop} (v1 : Int32) (v2 : Int32) (v3 : Int32) (hS : mSk h)
    (K : vp_in v3 6 ∧ mC G kX12_mayBeNone (d + 3) (0, 0) [.inr (some 47), .inl v1, .inl (m_rem v2 32), .inl (v2 / 32), .inl (mI h 83 v3.toNatClampNeg)] h (fun r h2 => ∃ x3, r = some (.inl x3) ∧ mSk h2 ∧ m_bool x3 ∧ Q (some (.inl x3)) h2)) : mC G kX12_mayBeSilent (d + 4) b [.inr (some 47), .inl v1, .inl v2, .inl v3] h Q := by
  refine mC_in rfl (Nat.le_of_ble_eq_true rfl) ?_
  show mW _ _ _ _ _ [some (.inr (some 47)), some (.inl v1), some (.inl v2), some (.inl v3)] _ _ _
  refine mw_aload_n (pc' := 1) dX12_mayBeSilent_0 rfl rfl ?_
  refine mw_iload_n (pc' := 2) dX12_mayBeSilent_1 rfl rfl ?_
  refine mw_iload_n (pc' := 3) dX12_mayBeSilent_2 rfl rfl ?_
  refine mw_bipush (pc' := 5) (v := 32) dX12_mayBeSilent_3 rfl (by decide) ?_
  refine mw_iremM (pc' := 6) dX12_mayBeSilent_5 rfl (by decide) ?_
  refine mw_iload_n (pc' := 7) dX12_mayBeSilent_6 rfl rfl ?_
  refine mw_bipush (pc' := 9) (v := 32) dX12_mayBeSilent_7 rfl (by decide) ?_
  refine mw_idiv (pc' := 10) dX12_mayBeSilent_9 rfl (by decide) ?_
  refine mw_aload_n (pc' := 11) dX12_mayBeSilent_10 rfl rfl ?_
  refine mw_getR (pc' := 14) dX12_mayBeSilent_11 rfl flX12_117 rfl (skT_47 hS) ?_
  rw [skR_47_56 hS]
  refine mw_iload_n (pc' := 15) dX12_mayBeSilent_14 rfl rfl ?_
  obtain ⟨o1, K⟩ := K
  refine mw_ialdL (pc' := 16) dX12_mayBeSilent_15 rfl (skT_83 hS) (skL_83 hS) o1 ?_
  refine mw_callV (pc' := 19) (b' := (0, 0)) (b1 := b) (av := [.inl v1, .inl (m_rem v2 32), .inl (v2 / 32), .inl (mI h 83 v3.toNatClampNeg)]) (rest := []) dX12_mayBeSilent_16 rfl lkX12_355 rfl rfl (Nat.le_of_ble_eq_true rfl) ⟨Nat.le_of_eq (Nat.zero_add _), Nat.le_of_eq (Nat.zero_add _)⟩ (skT_47 hS) ?_
  refine mC_mono (fun r h2 hr => ?_) K
  obtain ⟨x3, rfl, hS, K⟩ := hr
  show mW _ _ _ _ _ _ [.inl x3] _ _
  obtain ⟨o4, K⟩ := K
  exact mw_iret dX12_mayBeSilent_19 rfl (m_boolN o4) K

set_option maxRecDepth 100000 in
set_option maxHeartbeats 4000000 in
theorem qX12_mostBy {G : mG} {d : Nat} {b : Nat × Nat} {h : mH} {Q : Option mV → mH → Prop} (v1 : Int32) (hS : mSk h)
    (K : mW G kX12_mostBy (d + 5) b 2 [some (.inr (some 47)), some (.inl v1), some (.inl 0), none, none] [] h Q) : mC G kX12_mostBy (d + 5) b [.inr (some 47), .inl v1] h Q := by
  refine mC_in rfl (Nat.le_of_ble_eq_true rfl) ?_
  show mW _ _ _ _ _ [some (.inr (some 47)), some (.inl v1), none, none, none] _ _ _
  refine mw_iconst (pc' := 1) (v := 0) dX12_mostBy_0 rfl (by decide) ?_
  refine mw_istore_n (pc' := 2) dX12_mostBy_1 rfl (by decide) ?_
  show mW _ _ _ _ _ [some (.inr (some 47)), some (.inl v1), some (.inl 0), none, none] _ _ _
  exact K

set_option maxRecDepth 100000 in
set_option maxHeartbeats 4000000 in
theorem qX12_mostBy_2 {G : mG} {d : Nat} {b : Nat × Nat} {h : mH} {Q : Option mV → mH → Prop} (v1 : Int32) (v2 : Int32) (hS : mSk h)
    (K : ((65 ≤ v2 → mW G kX12_mostBy (d + 5) b 23 [some (.inr (some 47)), some (.inl v1), some (.inl 0), none, none] [] h Q) ∧ (¬ (65 ≤ v2) → vp_in v2 65 ∧ ∀ h2, h2 = mSI h 86 v2.toNatClampNeg 0 → mW G kX12_mostBy (d + 5) b 2 [some (.inr (some 47)), some (.inl v1), some (.inl (v2 + 1)), none, none] [] h2 Q))) : mW G kX12_mostBy (d + 5) b 2 [some (.inr (some 47)), some (.inl v1), some (.inl v2), none, none] [] h Q := by
  refine mw_iload_n (pc' := 3) dX12_mostBy_2 rfl rfl ?_
  refine mw_bipush (pc' := 5) (v := 65) dX12_mostBy_3 rfl (by decide) ?_
  refine mw_icmp_ge (pc' := 8) (tgt := 21) dX12_mostBy_5 rfl (by decide) (fun c3 => ?_) (fun c3 => ?_)
  · replace K := K.1 c3
    refine mw_iconst (pc' := 22) (v := 0) dX12_mostBy_21 rfl (by decide) ?_
    refine mw_istore_n (pc' := 23) dX12_mostBy_22 rfl (by decide) ?_
    show mW _ _ _ _ _ [some (.inr (some 47)), some (.inl v1), some (.inl 0), none, none] _ _ _
    exact K
  · replace K := K.2 c3
    refine mw_aload_n (pc' := 9) dX12_mostBy_8 rfl rfl ?_
    refine mw_getR (pc' := 12) dX12_mostBy_9 rfl flX12_126 rfl (skT_47 hS) ?_
    rw [skR_47_59 hS]
    refine mw_iload_n (pc' := 13) dX12_mostBy_12 rfl rfl ?_
    refine mw_iconst (pc' := 14) (v := 0) dX12_mostBy_13 rfl (by decide) ?_
    obtain ⟨o1, K⟩ := K
    refine mw_iastK (pc' := 15) dX12_mostBy_14 rfl (skT_86 hS) (skL_86 hS) o1 hS (fun h2 eh2 hS => ?_)
    replace K := K h2 eh2
    refine mw_iinc (pc' := 18) (v := v2 + 1) dX12_mostBy_15 rfl (by decide) rfl rfl ?_
    show mW _ _ _ _ _ [some (.inr (some 47)), some (.inl v1), some (.inl (v2 + 1)), none, none] _ _ _
    refine mw_goto (tgt := 2) dX12_mostBy_18 (by decide) ?_
    exact K

set_option maxRecDepth 100000 in
set_option maxHeartbeats 4000000 in
theorem qX12_mostBy_23 {G : mG} {d : Nat} {b : Nat × Nat} {h : mH} {Q : Option mV → mH → Prop} (v1 : Int32) (v2 : Int32) (hS : mSk h)
    (K : (((mI h 47 53) ≤ v2 → mW G kX12_mostBy (d + 5) b 131 [some (.inr (some 47)), none, some (.inl 0), some (.inl 0), none] [] h Q) ∧ (¬ ((mI h 47 53) ≤ v2) → vp_in v2 8192 ∧ vp_in v2 8192 ∧ mC G kX12_movedBy (d + 4) (0, 0) [.inr (some 47), .inl (mI h 84 v2.toNatClampNeg), .inl (mI h 85 v2.toNatClampNeg), .inl v1] h (fun r h3 => ∃ x4, r = some (.inl x4) ∧ mSk h3 ∧ ((¬ x4 = (-1) → vp_in v2 8192 ∧ mC G kX12_countAt (d + 4) (0, 0) [.inr (some 47), .inl (mI h3 84 v2.toNatClampNeg), .inl x4, .inl v1] h3 (fun r h6 => ∃ x7, r = some (.inl x7) ∧ mSk h6 ∧ ((x7 ≤ 0 → vp_in v2 8192 ∧ mC G kX12_mayBeSilent (d + 4) (0, 0) [.inr (some 47), .inl (mI h6 84 v2.toNatClampNeg), .inl x4, .inl v1] h6 (fun r h9 => ∃ x10, r = some (.inl x10) ∧ mSk h9 ∧ ((x10 = 0 → mW G kX12_mostBy (d + 5) b 23 [some (.inr (some 47)), some (.inl v1), some (.inl (v2 + 1)), none, none] [] h9 Q) ∧ (¬ x10 = 0 → vp_in 0 65 ∧ vp_in 0 65 ∧ ∀ h13, h13 = mSI h9 86 0 ((mI h9 86 0) + 1) → mW G kX12_mostBy (d + 5) b 23 [some (.inr (some 47)), some (.inl v1), some (.inl (v2 + 1)), none, none] [] h13 Q)))) ∧ (¬ (x7 ≤ 0) → vp_in x7 65 ∧ vp_in x7 65 ∧ ∀ h17, h17 = mSI h6 86 x7.toNatClampNeg ((mI h6 86 x7.toNatClampNeg) + 1) → vp_in v2 8192 ∧ mC G kX12_mayBeSilent (d + 4) (0, 0) [.inr (some 47), .inl (mI h17 84 v2.toNatClampNeg), .inl x4, .inl v1] h17 (fun r h19 => ∃ x20, r = some (.inl x20) ∧ mSk h19 ∧ ((x20 = 0 → mW G kX12_mostBy (d + 5) b 23 [some (.inr (some 47)), some (.inl v1), some (.inl (v2 + 1)), none, none] [] h19 Q) ∧ (¬ x20 = 0 → vp_in 0 65 ∧ vp_in 0 65 ∧ ∀ h23, h23 = mSI h19 86 0 ((mI h19 86 0) + 1) → mW G kX12_mostBy (d + 5) b 23 [some (.inr (some 47)), some (.inl v1), some (.inl (v2 + 1)), none, none] [] h23 Q))))))) ∧ (x4 = (-1) → mW G kX12_mostBy (d + 5) b 23 [some (.inr (some 47)), some (.inl v1), some (.inl (v2 + 1)), none, none] [] h3 Q)))))) : mW G kX12_mostBy (d + 5) b 23 [some (.inr (some 47)), some (.inl v1), some (.inl v2), none, none] [] h Q := by
  refine mw_iload_n (pc' := 24) dX12_mostBy_23 rfl rfl ?_
  refine mw_aload_n (pc' := 25) dX12_mostBy_24 rfl rfl ?_
  refine mw_getI (pc' := 28) dX12_mostBy_25 rfl flX12_416 rfl (skT_47 hS) ?_
  refine mw_icmp_ge (pc' := 31) (tgt := 127) dX12_mostBy_28 rfl (by decide) (fun c27 => ?_) (fun c27 => ?_)
  · replace K := K.1 c27
    refine mw_iconst (pc' := 128) (v := 0) dX12_mostBy_127 rfl (by decide) ?_
    refine mw_istore_n (pc' := 129) dX12_mostBy_128 rfl (by decide) ?_
    show mW _ _ _ _ _ [some (.inr (some 47)), some (.inl v1), some (.inl 0), none, none] _ _ _
    refine mw_iconst (pc' := 130) (v := 0) dX12_mostBy_129 rfl (by decide) ?_
    refine mw_istore_n (pc' := 131) dX12_mostBy_130 rfl (by decide) ?_
    show mW _ _ _ _ _ [some (.inr (some 47)), some (.inl v1), some (.inl 0), some (.inl 0), none] _ _ _
    refine mw_weak (ls' := [some (.inr (some 47)), none, some (.inl 0), some (.inl 0), none]) ?_ ?_
    · intro i v hv; match i, hv with
      | 0, hv => exact hv
      | 1, hv => cases hv
      | 2, hv => exact hv
      | 3, hv => exact hv
      | 4, hv => cases hv
      | n + 5, hv => cases hv
    exact K
  · replace K := K.2 c27
    refine mw_aload_n (pc' := 32) dX12_mostBy_31 rfl rfl ?_
    refine mw_aload_n (pc' := 33) dX12_mostBy_32 rfl rfl ?_
    refine mw_getR (pc' := 36) dX12_mostBy_33 rfl flX12_120 rfl (skT_47 hS) ?_
    rw [skR_47_57 hS]
    refine mw_iload_n (pc' := 37) dX12_mostBy_36 rfl rfl ?_
    obtain ⟨o1, K⟩ := K
    refine mw_ialdL (pc' := 38) dX12_mostBy_37 rfl (skT_84 hS) (skL_84 hS) o1 ?_
    refine mw_aload_n (pc' := 39) dX12_mostBy_38 rfl rfl ?_
    refine mw_getR (pc' := 42) dX12_mostBy_39 rfl flX12_123 rfl (skT_47 hS) ?_
    rw [skR_47_58 hS]
    refine mw_iload_n (pc' := 43) dX12_mostBy_42 rfl rfl ?_
    obtain ⟨o2, K⟩ := K
    refine mw_ialdL (pc' := 44) dX12_mostBy_43 rfl (skT_85 hS) (skL_85 hS) o2 ?_
    refine mw_iload_n (pc' := 45) dX12_mostBy_44 rfl rfl ?_
    refine mw_callV (pc' := 48) (b' := (0, 0)) (b1 := b) (av := [.inl (mI h 84 v2.toNatClampNeg), .inl (mI h 85 v2.toNatClampNeg), .inl v1]) (rest := []) dX12_mostBy_45 rfl lkX12_419 rfl rfl (Nat.le_of_ble_eq_true rfl) ⟨Nat.le_of_eq (Nat.zero_add _), Nat.le_of_eq (Nat.zero_add _)⟩ (skT_47 hS) ?_
    refine mC_mono (fun r h3 hr => ?_) K
    obtain ⟨x4, rfl, hS, K⟩ := hr
    show mW _ _ _ _ _ _ [.inl x4] _ _
    refine mw_istore_n (pc' := 49) dX12_mostBy_48 rfl (by decide) ?_
    show mW _ _ _ _ _ [some (.inr (some 47)), some (.inl v1), some (.inl v2), some (.inl x4), none] _ _ _
    refine mw_iload_n (pc' := 50) dX12_mostBy_49 rfl rfl ?_
    refine mw_iconst (pc' := 51) (v := (-1)) dX12_mostBy_50 rfl (by decide) ?_
    refine mw_icmp_ne (pc' := 54) (tgt := 57) dX12_mostBy_51 rfl (by decide) (fun c26 => ?_) (fun c26 => ?_)
    · replace K := K.1 c26
      refine mw_aload_n (pc' := 58) dX12_mostBy_57 rfl rfl ?_
      refine mw_aload_n (pc' := 59) dX12_mostBy_58 rfl rfl ?_
      refine mw_getR (pc' := 62) dX12_mostBy_59 rfl flX12_120 rfl (skT_47 hS) ?_
      rw [skR_47_57 hS]
      refine mw_iload_n (pc' := 63) dX12_mostBy_62 rfl rfl ?_
      obtain ⟨o5, K⟩ := K
      refine mw_ialdL (pc' := 64) dX12_mostBy_63 rfl (skT_84 hS) (skL_84 hS) o5 ?_
      refine mw_iload_n (pc' := 65) dX12_mostBy_64 rfl rfl ?_
      refine mw_iload_n (pc' := 66) dX12_mostBy_65 rfl rfl ?_
      refine mw_callV (pc' := 69) (b' := (0, 0)) (b1 := b) (av := [.inl (mI h3 84 v2.toNatClampNeg), .inl x4, .inl v1]) (rest := []) dX12_mostBy_66 rfl lkX12_422 rfl rfl (Nat.le_of_ble_eq_true rfl) ⟨Nat.le_of_eq (Nat.zero_add _), Nat.le_of_eq (Nat.zero_add _)⟩ (skT_47 hS) ?_
      refine mC_mono (fun r h6 hr => ?_) K
      obtain ⟨x7, rfl, hS, K⟩ := hr
      show mW _ _ _ _ _ _ [.inl x7] _ _
      refine mw_istore (pc' := 71) dX12_mostBy_69 rfl (by decide) ?_
      show mW _ _ _ _ _ [some (.inr (some 47)), some (.inl v1), some (.inl v2), some (.inl x4), some (.inl x7)] _ _ _
      refine mw_iload (pc' := 73) dX12_mostBy_71 rfl rfl ?_
      refine mw_if_le (pc' := 76) (tgt := 92) dX12_mostBy_73 rfl (by decide) (fun c25 => ?_) (fun c25 => ?_)
      · replace K := K.1 c25
        refine mw_aload_n (pc' := 93) dX12_mostBy_92 rfl rfl ?_
        refine mw_aload_n (pc' := 94) dX12_mostBy_93 rfl rfl ?_
        refine mw_getR (pc' := 97) dX12_mostBy_94 rfl flX12_120 rfl (skT_47 hS) ?_
        rw [skR_47_57 hS]
        refine mw_iload_n (pc' := 98) dX12_mostBy_97 rfl rfl ?_
        obtain ⟨o8, K⟩ := K
        refine mw_ialdL (pc' := 99) dX12_mostBy_98 rfl (skT_84 hS) (skL_84 hS) o8 ?_
        refine mw_iload_n (pc' := 100) dX12_mostBy_99 rfl rfl ?_
        refine mw_iload_n (pc' := 101) dX12_mostBy_100 rfl rfl ?_
        refine mw_callV (pc' := 104) (b' := (0, 0)) (b1 := b) (av := [.inl (mI h6 84 v2.toNatClampNeg), .inl x4, .inl v1]) (rest := []) dX12_mostBy_101 rfl lkX12_425 rfl rfl (Nat.le_of_ble_eq_true rfl) ⟨Nat.le_of_eq (Nat.zero_add _), Nat.le_of_eq (Nat.zero_add _)⟩ (skT_47 hS) ?_
        refine mC_mono (fun r h9 hr => ?_) K
        obtain ⟨x10, rfl, hS, K⟩ := hr
        show mW _ _ _ _ _ _ [.inl x10] _ _
        refine mw_if_eq (pc' := 107) (tgt := 121) dX12_mostBy_104 rfl (by decide) (fun c14 => ?_) (fun c14 => ?_)
        · replace K := K.1 c14
          refine mw_iinc (pc' := 124) (v := v2 + 1) dX12_mostBy_121 rfl (by decide) rfl rfl ?_
          show mW _ _ _ _ _ [some (.inr (some 47)), some (.inl v1), some (.inl (v2 + 1)), some (.inl x4), some (.inl x7)] _ _ _
          refine mw_goto (tgt := 23) dX12_mostBy_124 (by decide) ?_
          refine mw_weak (ls' := [some (.inr (some 47)), some (.inl v1), some (.inl (v2 + 1)), none, none]) ?_ ?_
          · intro i v hv; match i, hv with
            | 0, hv => exact hv
            | 1, hv => exact hv
            | 2, hv => exact hv
            | 3, hv => cases hv
            | 4, hv => cases hv
            | n + 5, hv => cases hv
          exact K
        · replace K := K.2 c14
          refine mw_aload_n (pc' := 108) dX12_mostBy_107 rfl rfl ?_
          refine mw_getR (pc' := 111) dX12_mostBy_108 rfl flX12_126 rfl (skT_47 hS) ?_
          rw [skR_47_59 hS]
          refine mw_iconst (pc' := 112) (v := 0) dX12_mostBy_111 rfl (by decide) ?_
          refine mw_aload_n (pc' := 113) dX12_mostBy_112 rfl rfl ?_
          refine mw_getR (pc' := 116) dX12_mostBy_113 rfl flX12_126 rfl (skT_47 hS) ?_
          rw [skR_47_59 hS]
          refine mw_iconst (pc' := 117) (v := 0) dX12_mostBy_116 rfl (by decide) ?_
          obtain ⟨o11, K⟩ := K
          refine mw_ialdL (pc' := 118) dX12_mostBy_117 rfl (skT_86 hS) (skL_86 hS) o11 ?_
          refine mw_iconst (pc' := 119) (v := 1) dX12_mostBy_118 rfl (by decide) ?_
          refine mw_iadd (pc' := 120) dX12_mostBy_119 rfl ?_
          obtain ⟨o12, K⟩ := K
          refine mw_iastK (pc' := 121) dX12_mostBy_120 rfl (skT_86 hS) (skL_86 hS) o12 hS (fun h13 eh13 hS => ?_)
          replace K := K h13 eh13
          refine mw_iinc (pc' := 124) (v := v2 + 1) dX12_mostBy_121 rfl (by decide) rfl rfl ?_
          show mW _ _ _ _ _ [some (.inr (some 47)), some (.inl v1), some (.inl (v2 + 1)), some (.inl x4), some (.inl x7)] _ _ _
          refine mw_goto (tgt := 23) dX12_mostBy_124 (by decide) ?_
          refine mw_weak (ls' := [some (.inr (some 47)), some (.inl v1), some (.inl (v2 + 1)), none, none]) ?_ ?_
          · intro i v hv; match i, hv with
            | 0, hv => exact hv
            | 1, hv => exact hv
            | 2, hv => exact hv
            | 3, hv => cases hv
            | 4, hv => cases hv
            | n + 5, hv => cases hv
          exact K
      · replace K := K.2 c25
        refine mw_aload_n (pc' := 77) dX12_mostBy_76 rfl rfl ?_
        refine mw_getR (pc' := 80) dX12_mostBy_77 rfl flX12_126 rfl (skT_47 hS) ?_
        rw [skR_47_59 hS]
        refine mw_iload (pc' := 82) dX12_mostBy_80 rfl rfl ?_
        refine mw_aload_n (pc' := 83) dX12_mostBy_82 rfl rfl ?_
        refine mw_getR (pc' := 86) dX12_mostBy_83 rfl flX12_126 rfl (skT_47 hS) ?_
        rw [skR_47_59 hS]
        refine mw_iload (pc' := 88) dX12_mostBy_86 rfl rfl ?_
        obtain ⟨o15, K⟩ := K
        refine mw_ialdL (pc' := 89) dX12_mostBy_88 rfl (skT_86 hS) (skL_86 hS) o15 ?_
        refine mw_iconst (pc' := 90) (v := 1) dX12_mostBy_89 rfl (by decide) ?_
        refine mw_iadd (pc' := 91) dX12_mostBy_90 rfl ?_
        obtain ⟨o16, K⟩ := K
        refine mw_iastK (pc' := 92) dX12_mostBy_91 rfl (skT_86 hS) (skL_86 hS) o16 hS (fun h17 eh17 hS => ?_)
        replace K := K h17 eh17
        refine mw_aload_n (pc' := 93) dX12_mostBy_92 rfl rfl ?_
        refine mw_aload_n (pc' := 94) dX12_mostBy_93 rfl rfl ?_
        refine mw_getR (pc' := 97) dX12_mostBy_94 rfl flX12_120 rfl (skT_47 hS) ?_
        rw [skR_47_57 hS]
        refine mw_iload_n (pc' := 98) dX12_mostBy_97 rfl rfl ?_
        obtain ⟨o18, K⟩ := K
        refine mw_ialdL (pc' := 99) dX12_mostBy_98 rfl (skT_84 hS) (skL_84 hS) o18 ?_
        refine mw_iload_n (pc' := 100) dX12_mostBy_99 rfl rfl ?_
        refine mw_iload_n (pc' := 101) dX12_mostBy_100 rfl rfl ?_
        refine mw_callV (pc' := 104) (b' := (0, 0)) (b1 := b) (av := [.inl (mI h17 84 v2.toNatClampNeg), .inl x4, .inl v1]) (rest := []) dX12_mostBy_101 rfl lkX12_425 rfl rfl (Nat.le_of_ble_eq_true rfl) ⟨Nat.le_of_eq (Nat.zero_add _), Nat.le_of_eq (Nat.zero_add _)⟩ (skT_47 hS) ?_
        refine mC_mono (fun r h19 hr => ?_) K
        obtain ⟨x20, rfl, hS, K⟩ := hr
        show mW _ _ _ _ _ _ [.inl x20] _ _
        refine mw_if_eq (pc' := 107) (tgt := 121) dX12_mostBy_104 rfl (by decide) (fun c24 => ?_) (fun c24 => ?_)
        · replace K := K.1 c24
          refine mw_iinc (pc' := 124) (v := v2 + 1) dX12_mostBy_121 rfl (by decide) rfl rfl ?_
          show mW _ _ _ _ _ [some (.inr (some 47)), some (.inl v1), some (.inl (v2 + 1)), some (.inl x4), some (.inl x7)] _ _ _
          refine mw_goto (tgt := 23) dX12_mostBy_124 (by decide) ?_
          refine mw_weak (ls' := [some (.inr (some 47)), some (.inl v1), some (.inl (v2 + 1)), none, none]) ?_ ?_
          · intro i v hv; match i, hv with
            | 0, hv => exact hv
            | 1, hv => exact hv
            | 2, hv => exact hv
            | 3, hv => cases hv
            | 4, hv => cases hv
            | n + 5, hv => cases hv
          exact K
        · replace K := K.2 c24
          refine mw_aload_n (pc' := 108) dX12_mostBy_107 rfl rfl ?_
          refine mw_getR (pc' := 111) dX12_mostBy_108 rfl flX12_126 rfl (skT_47 hS) ?_
          rw [skR_47_59 hS]
          refine mw_iconst (pc' := 112) (v := 0) dX12_mostBy_111 rfl (by decide) ?_
          refine mw_aload_n (pc' := 113) dX12_mostBy_112 rfl rfl ?_
          refine mw_getR (pc' := 116) dX12_mostBy_113 rfl flX12_126 rfl (skT_47 hS) ?_
          rw [skR_47_59 hS]
          refine mw_iconst (pc' := 117) (v := 0) dX12_mostBy_116 rfl (by decide) ?_
          obtain ⟨o21, K⟩ := K
          refine mw_ialdL (pc' := 118) dX12_mostBy_117 rfl (skT_86 hS) (skL_86 hS) o21 ?_
          refine mw_iconst (pc' := 119) (v := 1) dX12_mostBy_118 rfl (by decide) ?_
          refine mw_iadd (pc' := 120) dX12_mostBy_119 rfl ?_
          obtain ⟨o22, K⟩ := K
          refine mw_iastK (pc' := 121) dX12_mostBy_120 rfl (skT_86 hS) (skL_86 hS) o22 hS (fun h23 eh23 hS => ?_)
          replace K := K h23 eh23
          refine mw_iinc (pc' := 124) (v := v2 + 1) dX12_mostBy_121 rfl (by decide) rfl rfl ?_
          show mW _ _ _ _ _ [some (.inr (some 47)), some (.inl v1), some (.inl (v2 + 1)), some (.inl x4), some (.inl x7)] _ _ _
          refine mw_goto (tgt := 23) dX12_mostBy_124 (by decide) ?_
          refine mw_weak (ls' := [some (.inr (some 47)), some (.inl v1), some (.inl (v2 + 1)), none, none]) ?_ ?_
          · intro i v hv; match i, hv with
            | 0, hv => exact hv
            | 1, hv => exact hv
            | 2, hv => exact hv
            | 3, hv => cases hv
            | 4, hv => cases hv
            | n + 5, hv => cases hv
          exact K
    · replace K := K.2 c26
      refine mw_goto (tgt := 121) dX12_mostBy_54 (by decide) ?_
      refine mw_iinc (pc' := 124) (v := v2 + 1) dX12_mostBy_121 rfl (by decide) rfl rfl ?_
      show mW _ _ _ _ _ [some (.inr (some 47)), some (.inl v1), some (.inl (v2 + 1)), some (.inl x4), none] _ _ _
      refine mw_goto (tgt := 23) dX12_mostBy_124 (by decide) ?_
      refine mw_weak (ls' := [some (.inr (some 47)), some (.inl v1), some (.inl (v2 + 1)), none, none]) ?_ ?_
      · intro i v hv; match i, hv with
        | 0, hv => exact hv
        | 1, hv => exact hv
        | 2, hv => exact hv
        | 3, hv => cases hv
        | 4, hv => cases hv
        | n + 5, hv => cases hv
      exact K

set_option maxRecDepth 100000 in
set_option maxHeartbeats 4000000 in
theorem qX12_mostBy_131 {G : mG} {d : Nat} {b : Nat × Nat} {h : mH} {Q : Option mV → mH → Prop} (v2 : Int32) (v3 : Int32) (hS : mSk h)
    (K : ((65 ≤ v3 → Q (some (.inl v2)) h) ∧ (¬ (65 ≤ v3) → vp_in v3 65 ∧ (((mI h 86 v3.toNatClampNeg) ≤ v2 → mW G kX12_mostBy (d + 5) b 131 [some (.inr (some 47)), none, some (.inl v2), some (.inl (v3 + 1)), none] [] h Q) ∧ (¬ ((mI h 86 v3.toNatClampNeg) ≤ v2) → vp_in v3 65 ∧ mW G kX12_mostBy (d + 5) b 131 [some (.inr (some 47)), none, some (.inl (mI h 86 v3.toNatClampNeg)), some (.inl (v3 + 1)), none] [] h Q))))) : mW G kX12_mostBy (d + 5) b 131 [some (.inr (some 47)), none, some (.inl v2), some (.inl v3), none] [] h Q := by
  refine mw_iload_n (pc' := 132) dX12_mostBy_131 rfl rfl ?_
  refine mw_bipush (pc' := 134) (v := 65) dX12_mostBy_132 rfl (by decide) ?_
  refine mw_icmp_ge (pc' := 137) (tgt := 164) dX12_mostBy_134 rfl (by decide) (fun c4 => ?_) (fun c4 => ?_)
  · replace K := K.1 c4
    refine mw_iload_n (pc' := 165) dX12_mostBy_164 rfl rfl ?_
    exact mw_iret dX12_mostBy_165 rfl rfl K
  · replace K := K.2 c4
    refine mw_aload_n (pc' := 138) dX12_mostBy_137 rfl rfl ?_
    refine mw_getR (pc' := 141) dX12_mostBy_138 rfl flX12_126 rfl (skT_47 hS) ?_
    rw [skR_47_59 hS]
    refine mw_iload_n (pc' := 142) dX12_mostBy_141 rfl rfl ?_
    obtain ⟨o1, K⟩ := K
    refine mw_ialdL (pc' := 143) dX12_mostBy_142 rfl (skT_86 hS) (skL_86 hS) o1 ?_
    refine mw_iload_n (pc' := 144) dX12_mostBy_143 rfl rfl ?_
    refine mw_icmp_le (pc' := 147) (tgt := 156) dX12_mostBy_144 rfl (by decide) (fun c3 => ?_) (fun c3 => ?_)
    · replace K := K.1 c3
      refine mw_iload_n (pc' := 157) dX12_mostBy_156 rfl rfl ?_
      refine mw_istore_n (pc' := 158) dX12_mostBy_157 rfl (by decide) ?_
      show mW _ _ _ _ _ [some (.inr (some 47)), none, some (.inl v2), some (.inl v3), none] _ _ _
      refine mw_iinc (pc' := 161) (v := v3 + 1) dX12_mostBy_158 rfl (by decide) rfl rfl ?_
      show mW _ _ _ _ _ [some (.inr (some 47)), none, some (.inl v2), some (.inl (v3 + 1)), none] _ _ _
      refine mw_goto (tgt := 131) dX12_mostBy_161 (by decide) ?_
      exact K
    · replace K := K.2 c3
      refine mw_aload_n (pc' := 148) dX12_mostBy_147 rfl rfl ?_
      refine mw_getR (pc' := 151) dX12_mostBy_148 rfl flX12_126 rfl (skT_47 hS) ?_
      rw [skR_47_59 hS]
      refine mw_iload_n (pc' := 152) dX12_mostBy_151 rfl rfl ?_
      obtain ⟨o2, K⟩ := K
      refine mw_ialdL (pc' := 153) dX12_mostBy_152 rfl (skT_86 hS) (skL_86 hS) o2 ?_
      refine mw_goto (tgt := 157) dX12_mostBy_153 (by decide) ?_
      refine mw_istore_n (pc' := 158) dX12_mostBy_157 rfl (by decide) ?_
      show mW _ _ _ _ _ [some (.inr (some 47)), none, some (.inl (mI h 86 v3.toNatClampNeg)), some (.inl v3), none] _ _ _
      refine mw_iinc (pc' := 161) (v := v3 + 1) dX12_mostBy_158 rfl (by decide) rfl rfl ?_
      show mW _ _ _ _ _ [some (.inr (some 47)), none, some (.inl (mI h 86 v3.toNatClampNeg)), some (.inl (v3 + 1)), none] _ _ _
      refine mw_goto (tgt := 131) dX12_mostBy_161 (by decide) ?_
      exact K

set_option maxRecDepth 100000 in
set_option maxHeartbeats 4000000 in
theorem qX12_worstAnswer {G : mG} {d : Nat} {b : Nat × Nat} {h : mH} {Q : Option mV → mH → Prop} (v1 : Int32) (hS : mSk h)
    (K : mW G kX12_worstAnswer d b 2 [some (.inr (some 47)), some (.inl v1), some (.inl 0)] [] h Q) : mC G kX12_worstAnswer d b [.inr (some 47), .inl v1] h Q := by
  refine mC_in rfl (Nat.le_of_ble_eq_true rfl) ?_
  show mW _ _ _ _ _ [some (.inr (some 47)), some (.inl v1), none] _ _ _
  refine mw_iconst (pc' := 1) (v := 0) dX12_worstAnswer_0 rfl (by decide) ?_
  refine mw_istore_n (pc' := 2) dX12_worstAnswer_1 rfl (by decide) ?_
  show mW _ _ _ _ _ [some (.inr (some 47)), some (.inl v1), some (.inl 0)] _ _ _
  exact K

set_option maxRecDepth 100000 in
set_option maxHeartbeats 4000000 in
theorem qX12_worstAnswer_2 {G : mG} {d : Nat} {b : Nat × Nat} {h : mH} {Q : Option mV → mH → Prop} (v1 : Int32) (v2 : Int32) (hS : mSk h)
    (K : ((65 ≤ v2 → Q (some (.inl (-2))) h) ∧ (¬ (65 ≤ v2) → ((v1 ≤ 0 → mW G kX12_worstAnswer d b 2 [some (.inr (some 47)), some (.inl v1), some (.inl (v2 + 1))] [] h Q) ∧ (¬ (v1 ≤ 0) → vp_in v2 65 ∧ ((¬ (mI h 86 v2.toNatClampNeg) = v1 → mW G kX12_worstAnswer d b 2 [some (.inr (some 47)), some (.inl v1), some (.inl (v2 + 1))] [] h Q) ∧ ((mI h 86 v2.toNatClampNeg) = v1 → Q (some (.inl v2)) h))))))) : mW G kX12_worstAnswer d b 2 [some (.inr (some 47)), some (.inl v1), some (.inl v2)] [] h Q := by
  refine mw_iload_n (pc' := 3) dX12_worstAnswer_2 rfl rfl ?_
  refine mw_bipush (pc' := 5) (v := 65) dX12_worstAnswer_3 rfl (by decide) ?_
  refine mw_icmp_ge (pc' := 8) (tgt := 30) dX12_worstAnswer_5 rfl (by decide) (fun c4 => ?_) (fun c4 => ?_)
  · replace K := K.1 c4
    refine mw_bipush (pc' := 32) (v := (-2)) dX12_worstAnswer_30 rfl (by decide) ?_
    exact mw_iret dX12_worstAnswer_32 rfl rfl K
  · replace K := K.2 c4
    refine mw_iload_n (pc' := 9) dX12_worstAnswer_8 rfl rfl ?_
    refine mw_if_le (pc' := 12) (tgt := 24) dX12_worstAnswer_9 rfl (by decide) (fun c3 => ?_) (fun c3 => ?_)
    · replace K := K.1 c3
      refine mw_iinc (pc' := 27) (v := v2 + 1) dX12_worstAnswer_24 rfl (by decide) rfl rfl ?_
      show mW _ _ _ _ _ [some (.inr (some 47)), some (.inl v1), some (.inl (v2 + 1))] _ _ _
      refine mw_goto (tgt := 2) dX12_worstAnswer_27 (by decide) ?_
      exact K
    · replace K := K.2 c3
      refine mw_aload_n (pc' := 13) dX12_worstAnswer_12 rfl rfl ?_
      refine mw_getR (pc' := 16) dX12_worstAnswer_13 rfl flX12_126 rfl (skT_47 hS) ?_
      rw [skR_47_59 hS]
      refine mw_iload_n (pc' := 17) dX12_worstAnswer_16 rfl rfl ?_
      obtain ⟨o1, K⟩ := K
      refine mw_ialdL (pc' := 18) dX12_worstAnswer_17 rfl (skT_86 hS) (skL_86 hS) o1 ?_
      refine mw_iload_n (pc' := 19) dX12_worstAnswer_18 rfl rfl ?_
      refine mw_icmp_ne (pc' := 22) (tgt := 24) dX12_worstAnswer_19 rfl (by decide) (fun c2 => ?_) (fun c2 => ?_)
      · replace K := K.1 c2
        refine mw_iinc (pc' := 27) (v := v2 + 1) dX12_worstAnswer_24 rfl (by decide) rfl rfl ?_
        show mW _ _ _ _ _ [some (.inr (some 47)), some (.inl v1), some (.inl (v2 + 1))] _ _ _
        refine mw_goto (tgt := 2) dX12_worstAnswer_27 (by decide) ?_
        exact K
      · replace K := K.2 c2
        refine mw_iload_n (pc' := 23) dX12_worstAnswer_22 rfl rfl ?_
        exact mw_iret dX12_worstAnswer_23 rfl rfl K

set_option maxRecDepth 100000 in
set_option maxHeartbeats 4000000 in
theorem qX12_canChoose {G : mG} {d : Nat} {b : Nat × Nat} {h : mH} {Q : Option mV → mH → Prop}  (hS : mSk h)
    (K : (((mI h 47 52) = 0 → Q (some (.inl 0)) h) ∧ (¬ (mI h 47 52) = 0 → ((¬ (mI h 47 33) = 0 → mC G kX12_laysStates (d + 7) (0, 0) [.inr (some 47)] h (fun r h1 => r = none ∧ mSk h1 ∧ ∀ w2 : Int32, w2 = (if (mI h1 47 53) ≤ 0 then 0 else 1) → Q (some (.inl w2)) h1)) ∧ ((mI h 47 33) = 0 → Q (some (.inl 0)) h))))) : mC G kX12_canChoose (d + 8) b [.inr (some 47)] h Q := by
  refine mC_in rfl (Nat.le_of_ble_eq_true rfl) ?_
  show mW _ _ _ _ _ [some (.inr (some 47))] _ _ _
  refine mw_aload_n (pc' := 1) dX12_canChoose_0 rfl rfl ?_
  refine mw_getI (pc' := 4) dX12_canChoose_1 rfl flX12_413 rfl (skT_47 hS) ?_
  refine mw_if_eq (pc' := 7) (tgt := 14) dX12_canChoose_4 rfl (by decide) (fun c6 => ?_) (fun c6 => ?_)
  · replace K := K.1 c6
    refine mw_iconst (pc' := 15) (v := 0) dX12_canChoose_14 rfl (by decide) ?_
    exact mw_iret dX12_canChoose_15 rfl (by decide) K
  · replace K := K.2 c6
    refine mw_aload_n (pc' := 8) dX12_canChoose_7 rfl rfl ?_
    refine mw_getI (pc' := 11) dX12_canChoose_8 rfl flX12_340 rfl (skT_47 hS) ?_
    refine mw_if_ne (pc' := 14) (tgt := 16) dX12_canChoose_11 rfl (by decide) (fun c5 => ?_) (fun c5 => ?_)
    · replace K := K.1 c5
      refine mw_aload_n (pc' := 17) dX12_canChoose_16 rfl rfl ?_
      refine mw_callV (pc' := 20) (b' := (0, 0)) (b1 := b) (av := []) (rest := []) dX12_canChoose_17 rfl lkX12_428 rfl rfl (Nat.le_of_ble_eq_true rfl) ⟨Nat.le_of_eq (Nat.zero_add _), Nat.le_of_eq (Nat.zero_add _)⟩ (skT_47 hS) ?_
      refine mC_mono (fun r h1 hr => ?_) K
      obtain ⟨rfl, hS, K⟩ := hr
      show mW _ _ _ _ _ _ [] _ _
      refine mw_aload_n (pc' := 21) dX12_canChoose_20 rfl rfl ?_
      refine mw_getI (pc' := 24) dX12_canChoose_21 rfl flX12_416 rfl (skT_47 hS) ?_
      have J3 : ∀ w2 : Int32, w2 = (if (mI h1 47 53) ≤ 0 then 0 else 1) → mW G kX12_canChoose (d + 8) b 32 [some (.inr (some 47))] ([.inl w2]) h1 Q := by
        intro w2 ew2
        replace K := K w2 ew2
        exact mw_iret dX12_canChoose_32 rfl (m_boolN (by rw [ew2]; exact (m_boolI m_bool0 m_bool1))) K
      refine mw_if_le (pc' := 27) (tgt := 31) dX12_canChoose_24 rfl (by decide) (fun c4 => ?_) (fun c4 => ?_)
      · refine mw_iconst (pc' := 32) (v := 0) dX12_canChoose_31 rfl (by decide) ?_
        exact J3 _ (by rw [if_pos c4])
      · refine mw_iconst (pc' := 28) (v := 1) dX12_canChoose_27 rfl (by decide) ?_
        refine mw_goto (tgt := 32) dX12_canChoose_28 (by decide) ?_
        exact J3 _ (by rw [if_neg c4])
    · replace K := K.2 c5
      refine mw_iconst (pc' := 15) (v := 0) dX12_canChoose_14 rfl (by decide) ?_
      exact mw_iret dX12_canChoose_15 rfl (by decide) K

set_option maxRecDepth 100000 in
set_option maxHeartbeats 4000000 in
theorem qX12_next {G : mG} {d : Nat} {b : Nat × Nat} {h : mH} {Q : Option mV → mH → Prop} (v1 : Int32) (hS : mSk h)
    (K : ((¬ (f_X12_in v1 0 3) = 0 → mC G kX12_canChoose (d + 8) (0, 0) [.inr (some 47)] h (fun r h1 => ∃ x2, r = some (.inl x2) ∧ mSk h1 ∧ ((¬ x2 = 0 → mW G kX12_next (d + 9) b 34 [some (.inr (some 47)), some (.inl v1), some (.inl (-1)), some (.inl 1000000000), some (.inl (-2)), some (.inl 0), none] [] h1 Q) ∧ (x2 = 0 → Q (some (.inl (-2))) h1)))) ∧ ((f_X12_in v1 0 3) = 0 → Q (some (.inl (-1))) h))) : mC G kX12_next (d + 9) b [.inr (some 47), .inl v1] h Q := by
  refine mC_in rfl (Nat.le_of_ble_eq_true rfl) ?_
  show mW _ _ _ _ _ [some (.inr (some 47)), some (.inl v1), none, none, none, none, none] _ _ _
  refine mw_iload_n (pc' := 1) dX12_next_0 rfl rfl ?_
  refine mw_iconst (pc' := 2) (v := 0) dX12_next_1 rfl (by decide) ?_
  refine mw_iconst (pc' := 3) (v := 3) dX12_next_2 rfl (by decide) ?_
  refine mw_callS (pc' := 6) (b' := (0, 0)) (b1 := b) (av := [.inl v1, .inl 0, .inl 3]) (rest := []) dX12_next_3 rfl lkX12_173 rfl rfl (Nat.le_of_ble_eq_true rfl) ⟨Nat.le_of_eq (Nat.zero_add _), Nat.le_of_eq (Nat.zero_add _)⟩ ?_
  refine pX12_in ?_
  refine mw_if_ne (pc' := 9) (tgt := 11) dX12_next_6 rfl (by decide) (fun c4 => ?_) (fun c4 => ?_)
  · replace K := K.1 c4
    refine mw_aload_n (pc' := 12) dX12_next_11 rfl rfl ?_
    refine mw_callV (pc' := 15) (b' := (0, 0)) (b1 := b) (av := []) (rest := []) dX12_next_12 rfl lkX12_431 rfl rfl (Nat.le_of_ble_eq_true rfl) ⟨Nat.le_of_eq (Nat.zero_add _), Nat.le_of_eq (Nat.zero_add _)⟩ (skT_47 hS) ?_
    refine mC_mono (fun r h1 hr => ?_) K
    obtain ⟨x2, rfl, hS, K⟩ := hr
    show mW _ _ _ _ _ _ [.inl x2] _ _
    refine mw_if_ne (pc' := 18) (tgt := 21) dX12_next_15 rfl (by decide) (fun c3 => ?_) (fun c3 => ?_)
    · replace K := K.1 c3
      refine mw_iconst (pc' := 22) (v := (-1)) dX12_next_21 rfl (by decide) ?_
      refine mw_istore_n (pc' := 23) dX12_next_22 rfl (by decide) ?_
      show mW _ _ _ _ _ [some (.inr (some 47)), some (.inl v1), some (.inl (-1)), none, none, none, none] _ _ _
      refine mw_ldcw (pc' := 26) dX12_next_23 rfl cnX12_359 ?_
      refine mw_istore_n (pc' := 27) dX12_next_26 rfl (by decide) ?_
      show mW _ _ _ _ _ [some (.inr (some 47)), some (.inl v1), some (.inl (-1)), some (.inl 1000000000), none, none, none] _ _ _
      refine mw_bipush (pc' := 29) (v := (-2)) dX12_next_27 rfl (by decide) ?_
      refine mw_istore (pc' := 31) dX12_next_29 rfl (by decide) ?_
      show mW _ _ _ _ _ [some (.inr (some 47)), some (.inl v1), some (.inl (-1)), some (.inl 1000000000), some (.inl (-2)), none, none] _ _ _
      refine mw_iconst (pc' := 32) (v := 0) dX12_next_31 rfl (by decide) ?_
      refine mw_istore (pc' := 34) dX12_next_32 rfl (by decide) ?_
      show mW _ _ _ _ _ [some (.inr (some 47)), some (.inl v1), some (.inl (-1)), some (.inl 1000000000), some (.inl (-2)), some (.inl 0), none] _ _ _
      exact K
    · replace K := K.2 c3
      refine mw_bipush (pc' := 20) (v := (-2)) dX12_next_18 rfl (by decide) ?_
      exact mw_iret dX12_next_20 rfl rfl K
  · replace K := K.2 c4
    refine mw_iconst (pc' := 10) (v := (-1)) dX12_next_9 rfl (by decide) ?_
    exact mw_iret dX12_next_10 rfl rfl K

set_option maxRecDepth 100000 in
set_option maxHeartbeats 4000000 in
theorem qX12_next_34 {G : mG} {d : Nat} {b : Nat × Nat} {h : mH} {Q : Option mV → mH → Prop} (v1 : Int32) (v2 : Int32) (v3 : Int32) (v4 : Int32) (v5 : Int32) (hS : mSk h)
    (K : ((6 ≤ v5 → ((¬ v1 = 0 → ((¬ v1 = 1 → ((¬ v1 = 2 → Q (some (.inl (mI h 47 53))) h) ∧ (v1 = 2 → Q (some (.inl v4)) h))) ∧ (v1 = 1 → Q (some (.inl v3)) h))) ∧ (v1 = 0 → Q (some (.inl v2)) h))) ∧ (¬ (6 ≤ v5) → mC G kX12_isChoice (d + 8) (0, 0) [.inr (some 47), .inl v5] h (fun r h4 => ∃ x5, r = some (.inl x5) ∧ mSk h4 ∧ ((¬ x5 = 0 → mC G kX12_mostBy (d + 8) (0, 0) [.inr (some 47), .inl v5] h4 (fun r h6 => ∃ x7, r = some (.inl x7) ∧ mSk h6 ∧ ((x7 < v3 → mC G kX12_worstAnswer (d + 8) (0, 0) [.inr (some 47), .inl x7] h6 (fun r h8 => ∃ x9, r = some (.inl x9) ∧ mSk h8 ∧ mW G kX12_next (d + 9) b 34 [some (.inr (some 47)), some (.inl v1), some (.inl v5), some (.inl x7), some (.inl x9), some (.inl (v5 + 1)), none] [] h8 Q)) ∧ (¬ (x7 < v3) → mW G kX12_next (d + 9) b 34 [some (.inr (some 47)), some (.inl v1), some (.inl v2), some (.inl v3), some (.inl v4), some (.inl (v5 + 1)), none] [] h6 Q)))) ∧ (x5 = 0 → mW G kX12_next (d + 9) b 34 [some (.inr (some 47)), some (.inl v1), some (.inl v2), some (.inl v3), some (.inl v4), some (.inl (v5 + 1)), none] [] h4 Q)))))) : mW G kX12_next (d + 9) b 34 [some (.inr (some 47)), some (.inl v1), some (.inl v2), some (.inl v3), some (.inl v4), some (.inl v5), none] [] h Q := by
  refine mw_iload (pc' := 36) dX12_next_34 rfl rfl ?_
  refine mw_bipush (pc' := 38) (v := 6) dX12_next_36 rfl (by decide) ?_
  refine mw_icmp_ge (pc' := 41) (tgt := 90) dX12_next_38 rfl (by decide) (fun c12 => ?_) (fun c12 => ?_)
  · replace K := K.1 c12
    refine mw_iload_n (pc' := 91) dX12_next_90 rfl rfl ?_
    refine mw_if_ne (pc' := 94) (tgt := 98) dX12_next_91 rfl (by decide) (fun c3 => ?_) (fun c3 => ?_)
    · replace K := K.1 c3
      refine mw_iload_n (pc' := 99) dX12_next_98 rfl rfl ?_
      refine mw_iconst (pc' := 100) (v := 1) dX12_next_99 rfl (by decide) ?_
      refine mw_icmp_ne (pc' := 103) (tgt := 107) dX12_next_100 rfl (by decide) (fun c2 => ?_) (fun c2 => ?_)
      · replace K := K.1 c2
        refine mw_iload_n (pc' := 108) dX12_next_107 rfl rfl ?_
        refine mw_iconst (pc' := 109) (v := 2) dX12_next_108 rfl (by decide) ?_
        refine mw_icmp_ne (pc' := 112) (tgt := 117) dX12_next_109 rfl (by decide) (fun c1 => ?_) (fun c1 => ?_)
        · replace K := K.1 c1
          refine mw_aload_n (pc' := 118) dX12_next_117 rfl rfl ?_
          refine mw_getI (pc' := 121) dX12_next_118 rfl flX12_416 rfl (skT_47 hS) ?_
          exact mw_iret dX12_next_121 rfl rfl K
        · replace K := K.2 c1
          refine mw_iload (pc' := 114) dX12_next_112 rfl rfl ?_
          refine mw_goto (tgt := 121) dX12_next_114 (by decide) ?_
          exact mw_iret dX12_next_121 rfl rfl K
      · replace K := K.2 c2
        refine mw_iload_n (pc' := 104) dX12_next_103 rfl rfl ?_
        refine mw_goto (tgt := 121) dX12_next_104 (by decide) ?_
        exact mw_iret dX12_next_121 rfl rfl K
    · replace K := K.2 c3
      refine mw_iload_n (pc' := 95) dX12_next_94 rfl rfl ?_
      refine mw_goto (tgt := 121) dX12_next_95 (by decide) ?_
      exact mw_iret dX12_next_121 rfl rfl K
  · replace K := K.2 c12
    refine mw_aload_n (pc' := 42) dX12_next_41 rfl rfl ?_
    refine mw_iload (pc' := 44) dX12_next_42 rfl rfl ?_
    refine mw_callV (pc' := 47) (b' := (0, 0)) (b1 := b) (av := [.inl v5]) (rest := []) dX12_next_44 rfl lkX12_434 rfl rfl (Nat.le_of_ble_eq_true rfl) ⟨Nat.le_of_eq (Nat.zero_add _), Nat.le_of_eq (Nat.zero_add _)⟩ (skT_47 hS) ?_
    refine mC_mono (fun r h4 hr => ?_) K
    obtain ⟨x5, rfl, hS, K⟩ := hr
    show mW _ _ _ _ _ _ [.inl x5] _ _
    refine mw_if_ne (pc' := 50) (tgt := 53) dX12_next_47 rfl (by decide) (fun c11 => ?_) (fun c11 => ?_)
    · replace K := K.1 c11
      refine mw_aload_n (pc' := 54) dX12_next_53 rfl rfl ?_
      refine mw_iload (pc' := 56) dX12_next_54 rfl rfl ?_
      refine mw_callV (pc' := 59) (b' := (0, 0)) (b1 := b) (av := [.inl v5]) (rest := []) dX12_next_56 rfl lkX12_437 rfl rfl (Nat.le_of_ble_eq_true rfl) ⟨Nat.le_of_eq (Nat.zero_add _), Nat.le_of_eq (Nat.zero_add _)⟩ (skT_47 hS) ?_
      refine mC_mono (fun r h6 hr => ?_) K
      obtain ⟨x7, rfl, hS, K⟩ := hr
      show mW _ _ _ _ _ _ [.inl x7] _ _
      refine mw_istore (pc' := 61) dX12_next_59 rfl (by decide) ?_
      show mW _ _ _ _ _ [some (.inr (some 47)), some (.inl v1), some (.inl v2), some (.inl v3), some (.inl v4), some (.inl v5), some (.inl x7)] _ _ _
      refine mw_iload (pc' := 63) dX12_next_61 rfl rfl ?_
      refine mw_iload_n (pc' := 64) dX12_next_63 rfl rfl ?_
      refine mw_icmp_lt (pc' := 67) (tgt := 70) dX12_next_64 rfl (by decide) (fun c10 => ?_) (fun c10 => ?_)
      · replace K := K.1 c10
        refine mw_iload (pc' := 72) dX12_next_70 rfl rfl ?_
        refine mw_istore_n (pc' := 73) dX12_next_72 rfl (by decide) ?_
        show mW _ _ _ _ _ [some (.inr (some 47)), some (.inl v1), some (.inl v2), some (.inl x7), some (.inl v4), some (.inl v5), some (.inl x7)] _ _ _
        refine mw_iload (pc' := 75) dX12_next_73 rfl rfl ?_
        refine mw_istore_n (pc' := 76) dX12_next_75 rfl (by decide) ?_
        show mW _ _ _ _ _ [some (.inr (some 47)), some (.inl v1), some (.inl v5), some (.inl x7), some (.inl v4), some (.inl v5), some (.inl x7)] _ _ _
        refine mw_aload_n (pc' := 77) dX12_next_76 rfl rfl ?_
        refine mw_iload (pc' := 79) dX12_next_77 rfl rfl ?_
        refine mw_callV (pc' := 82) (b' := (0, 0)) (b1 := b) (av := [.inl x7]) (rest := []) dX12_next_79 rfl lkX12_440 rfl rfl (Nat.le_of_ble_eq_true rfl) ⟨Nat.le_of_eq (Nat.zero_add _), Nat.le_of_eq (Nat.zero_add _)⟩ (skT_47 hS) ?_
        refine mC_mono (fun r h8 hr => ?_) K
        obtain ⟨x9, rfl, hS, K⟩ := hr
        show mW _ _ _ _ _ _ [.inl x9] _ _
        refine mw_istore (pc' := 84) dX12_next_82 rfl (by decide) ?_
        show mW _ _ _ _ _ [some (.inr (some 47)), some (.inl v1), some (.inl v5), some (.inl x7), some (.inl x9), some (.inl v5), some (.inl x7)] _ _ _
        refine mw_iinc (pc' := 87) (v := v5 + 1) dX12_next_84 rfl (by decide) rfl rfl ?_
        show mW _ _ _ _ _ [some (.inr (some 47)), some (.inl v1), some (.inl v5), some (.inl x7), some (.inl x9), some (.inl (v5 + 1)), some (.inl x7)] _ _ _
        refine mw_goto (tgt := 34) dX12_next_87 (by decide) ?_
        refine mw_weak (ls' := [some (.inr (some 47)), some (.inl v1), some (.inl v5), some (.inl x7), some (.inl x9), some (.inl (v5 + 1)), none]) ?_ ?_
        · intro i v hv; match i, hv with
          | 0, hv => exact hv
          | 1, hv => exact hv
          | 2, hv => exact hv
          | 3, hv => exact hv
          | 4, hv => exact hv
          | 5, hv => exact hv
          | 6, hv => cases hv
          | n + 7, hv => cases hv
        exact K
      · replace K := K.2 c10
        refine mw_goto (tgt := 84) dX12_next_67 (by decide) ?_
        refine mw_iinc (pc' := 87) (v := v5 + 1) dX12_next_84 rfl (by decide) rfl rfl ?_
        show mW _ _ _ _ _ [some (.inr (some 47)), some (.inl v1), some (.inl v2), some (.inl v3), some (.inl v4), some (.inl (v5 + 1)), some (.inl x7)] _ _ _
        refine mw_goto (tgt := 34) dX12_next_87 (by decide) ?_
        refine mw_weak (ls' := [some (.inr (some 47)), some (.inl v1), some (.inl v2), some (.inl v3), some (.inl v4), some (.inl (v5 + 1)), none]) ?_ ?_
        · intro i v hv; match i, hv with
          | 0, hv => exact hv
          | 1, hv => exact hv
          | 2, hv => exact hv
          | 3, hv => exact hv
          | 4, hv => exact hv
          | 5, hv => exact hv
          | 6, hv => cases hv
          | n + 7, hv => cases hv
        exact K
    · replace K := K.2 c11
      refine mw_goto (tgt := 84) dX12_next_50 (by decide) ?_
      refine mw_iinc (pc' := 87) (v := v5 + 1) dX12_next_84 rfl (by decide) rfl rfl ?_
      show mW _ _ _ _ _ [some (.inr (some 47)), some (.inl v1), some (.inl v2), some (.inl v3), some (.inl v4), some (.inl (v5 + 1)), none] _ _ _
      refine mw_goto (tgt := 34) dX12_next_87 (by decide) ?_
      exact K

set_option maxRecDepth 100000 in
set_option maxHeartbeats 4000000 in
theorem qX12_addsSecond {G : mG} {d : Nat} {b : Nat × Nat} {h : mH} {Q : Option mV → mH → Prop} (v1 : Int32) (v2 : Int32) (v3 : Int32) (hS : mSk h)
    (K : mW G kX12_addsSecond (d + 5) b 3 [some (.inr (some 47)), some (.inl v1), some (.inl v2), some (.inl v3), some (.inl 0), none, none, none] [] h Q) : mC G kX12_addsSecond (d + 5) b [.inr (some 47), .inl v1, .inl v2, .inl v3] h Q := by
  refine mC_in rfl (Nat.le_of_ble_eq_true rfl) ?_
  show mW _ _ _ _ _ [some (.inr (some 47)), some (.inl v1), some (.inl v2), some (.inl v3), none, none, none, none] _ _ _
  refine mw_iconst (pc' := 1) (v := 0) dX12_addsSecond_0 rfl (by decide) ?_
  refine mw_istore (pc' := 3) dX12_addsSecond_1 rfl (by decide) ?_
  show mW _ _ _ _ _ [some (.inr (some 47)), some (.inl v1), some (.inl v2), some (.inl v3), some (.inl 0), none, none, none] _ _ _
  exact K

set_option maxRecDepth 100000 in
set_option maxHeartbeats 4000000 in
theorem qX12_addsSecond_3 {G : mG} {d : Nat} {b : Nat × Nat} {h : mH} {Q : Option mV → mH → Prop} (v1 : Int32) (v2 : Int32) (v3 : Int32) (v4 : Int32) (hS : mSk h)
    (K : ((6 ≤ v4 → Q none h) ∧ (¬ (6 ≤ v4) → mC G kX12_isChoice (d + 4) (0, 0) [.inr (some 47), .inl v4] h (fun r h1 => ∃ x2, r = some (.inl x2) ∧ mSk h1 ∧ ((¬ x2 = 0 → mC G kX12_movedBy (d + 4) (0, 0) [.inr (some 47), .inl v1, .inl v2, .inl v4] h1 (fun r h3 => ∃ x4, r = some (.inl x4) ∧ mSk h3 ∧ ((¬ x4 = (-1) → mC G kX12_countAt (d + 4) (0, 0) [.inr (some 47), .inl v1, .inl x4, .inl v4] h3 (fun r h5 => ∃ x6, r = some (.inl x6) ∧ mSk h5 ∧ ((x6 ≤ 0 → mC G kX12_mayBeSilent (d + 4) (0, 0) [.inr (some 47), .inl v1, .inl x4, .inl v4] h5 (fun r h7 => ∃ x8, r = some (.inl x8) ∧ mSk h7 ∧ ((x8 = 0 → mW G kX12_addsSecond (d + 5) b 3 [some (.inr (some 47)), some (.inl v1), some (.inl v2), some (.inl v3), some (.inl (v4 + 1)), none, none, none] [] h7 Q) ∧ (¬ x8 = 0 → vp_in (((65 * v4) + v3) * 65) 25350 ∧ vp_in (((65 * v4) + v3) * 65) 25350 ∧ ∀ h11, h11 = mSI h7 87 (((65 * v4) + v3) * 65).toNatClampNeg ((mI h7 87 (((65 * v4) + v3) * 65).toNatClampNeg) + 1) → mW G kX12_addsSecond (d + 5) b 3 [some (.inr (some 47)), some (.inl v1), some (.inl v2), some (.inl v3), some (.inl (v4 + 1)), none, none, none] [] h11 Q)))) ∧ (¬ (x6 ≤ 0) → vp_in ((((65 * v4) + v3) * 65) + x6) 25350 ∧ vp_in ((((65 * v4) + v3) * 65) + x6) 25350 ∧ ∀ h15, h15 = mSI h5 87 ((((65 * v4) + v3) * 65) + x6).toNatClampNeg ((mI h5 87 ((((65 * v4) + v3) * 65) + x6).toNatClampNeg) + 1) → mC G kX12_mayBeSilent (d + 4) (0, 0) [.inr (some 47), .inl v1, .inl x4, .inl v4] h15 (fun r h16 => ∃ x17, r = some (.inl x17) ∧ mSk h16 ∧ ((x17 = 0 → mW G kX12_addsSecond (d + 5) b 3 [some (.inr (some 47)), some (.inl v1), some (.inl v2), some (.inl v3), some (.inl (v4 + 1)), none, none, none] [] h16 Q) ∧ (¬ x17 = 0 → vp_in (((65 * v4) + v3) * 65) 25350 ∧ vp_in (((65 * v4) + v3) * 65) 25350 ∧ ∀ h20, h20 = mSI h16 87 (((65 * v4) + v3) * 65).toNatClampNeg ((mI h16 87 (((65 * v4) + v3) * 65).toNatClampNeg) + 1) → mW G kX12_addsSecond (d + 5) b 3 [some (.inr (some 47)), some (.inl v1), some (.inl v2), some (.inl v3), some (.inl (v4 + 1)), none, none, none] [] h20 Q))))))) ∧ (x4 = (-1) → mW G kX12_addsSecond (d + 5) b 3 [some (.inr (some 47)), some (.inl v1), some (.inl v2), some (.inl v3), some (.inl (v4 + 1)), none, none, none] [] h3 Q)))) ∧ (x2 = 0 → mW G kX12_addsSecond (d + 5) b 3 [some (.inr (some 47)), some (.inl v1), some (.inl v2), some (.inl v3), some (.inl (v4 + 1)), none, none, none] [] h1 Q)))))) : mW G kX12_addsSecond (d + 5) b 3 [some (.inr (some 47)), some (.inl v1), some (.inl v2), some (.inl v3), some (.inl v4), none, none, none] [] h Q := by
  refine mw_iload (pc' := 5) dX12_addsSecond_3 rfl rfl ?_
  refine mw_bipush (pc' := 7) (v := 6) dX12_addsSecond_5 rfl (by decide) ?_
  refine mw_icmp_ge (pc' := 10) (tgt := 125) dX12_addsSecond_7 rfl (by decide) (fun c25 => ?_) (fun c25 => ?_)
  · replace K := K.1 c25
    exact mw_ret dX12_addsSecond_125 rfl K
  · replace K := K.2 c25
    refine mw_aload_n (pc' := 11) dX12_addsSecond_10 rfl rfl ?_
    refine mw_iload (pc' := 13) dX12_addsSecond_11 rfl rfl ?_
    refine mw_callV (pc' := 16) (b' := (0, 0)) (b1 := b) (av := [.inl v4]) (rest := []) dX12_addsSecond_13 rfl lkX12_434 rfl rfl (Nat.le_of_ble_eq_true rfl) ⟨Nat.le_of_eq (Nat.zero_add _), Nat.le_of_eq (Nat.zero_add _)⟩ (skT_47 hS) ?_
    refine mC_mono (fun r h1 hr => ?_) K
    obtain ⟨x2, rfl, hS, K⟩ := hr
    show mW _ _ _ _ _ _ [.inl x2] _ _
    refine mw_if_ne (pc' := 19) (tgt := 22) dX12_addsSecond_16 rfl (by decide) (fun c24 => ?_) (fun c24 => ?_)
    · replace K := K.1 c24
      refine mw_aload_n (pc' := 23) dX12_addsSecond_22 rfl rfl ?_
      refine mw_iload_n (pc' := 24) dX12_addsSecond_23 rfl rfl ?_
      refine mw_iload_n (pc' := 25) dX12_addsSecond_24 rfl rfl ?_
      refine mw_iload (pc' := 27) dX12_addsSecond_25 rfl rfl ?_
      refine mw_callV (pc' := 30) (b' := (0, 0)) (b1 := b) (av := [.inl v1, .inl v2, .inl v4]) (rest := []) dX12_addsSecond_27 rfl lkX12_419 rfl rfl (Nat.le_of_ble_eq_true rfl) ⟨Nat.le_of_eq (Nat.zero_add _), Nat.le_of_eq (Nat.zero_add _)⟩ (skT_47 hS) ?_
      refine mC_mono (fun r h3 hr => ?_) K
      obtain ⟨x4, rfl, hS, K⟩ := hr
      show mW _ _ _ _ _ _ [.inl x4] _ _
      refine mw_istore (pc' := 32) dX12_addsSecond_30 rfl (by decide) ?_
      show mW _ _ _ _ _ [some (.inr (some 47)), some (.inl v1), some (.inl v2), some (.inl v3), some (.inl v4), some (.inl x4), none, none] _ _ _
      refine mw_iload (pc' := 34) dX12_addsSecond_32 rfl rfl ?_
      refine mw_iconst (pc' := 35) (v := (-1)) dX12_addsSecond_34 rfl (by decide) ?_
      refine mw_icmp_ne (pc' := 38) (tgt := 41) dX12_addsSecond_35 rfl (by decide) (fun c23 => ?_) (fun c23 => ?_)
      · replace K := K.1 c23
        refine mw_bipush (pc' := 43) (v := 65) dX12_addsSecond_41 rfl (by decide) ?_
        refine mw_iload (pc' := 45) dX12_addsSecond_43 rfl rfl ?_
        refine mw_imul (pc' := 46) dX12_addsSecond_45 rfl ?_
        refine mw_iload_n (pc' := 47) dX12_addsSecond_46 rfl rfl ?_
        refine mw_iadd (pc' := 48) dX12_addsSecond_47 rfl ?_
        refine mw_bipush (pc' := 50) (v := 65) dX12_addsSecond_48 rfl (by decide) ?_
        refine mw_imul (pc' := 51) dX12_addsSecond_50 rfl ?_
        refine mw_istore (pc' := 53) dX12_addsSecond_51 rfl (by decide) ?_
        show mW _ _ _ _ _ [some (.inr (some 47)), some (.inl v1), some (.inl v2), some (.inl v3), some (.inl v4), some (.inl x4), some (.inl (((65 * v4) + v3) * 65)), none] _ _ _
        refine mw_aload_n (pc' := 54) dX12_addsSecond_53 rfl rfl ?_
        refine mw_iload_n (pc' := 55) dX12_addsSecond_54 rfl rfl ?_
        refine mw_iload (pc' := 57) dX12_addsSecond_55 rfl rfl ?_
        refine mw_iload (pc' := 59) dX12_addsSecond_57 rfl rfl ?_
        refine mw_callV (pc' := 62) (b' := (0, 0)) (b1 := b) (av := [.inl v1, .inl x4, .inl v4]) (rest := []) dX12_addsSecond_59 rfl lkX12_422 rfl rfl (Nat.le_of_ble_eq_true rfl) ⟨Nat.le_of_eq (Nat.zero_add _), Nat.le_of_eq (Nat.zero_add _)⟩ (skT_47 hS) ?_
        refine mC_mono (fun r h5 hr => ?_) K
        obtain ⟨x6, rfl, hS, K⟩ := hr
        show mW _ _ _ _ _ _ [.inl x6] _ _
        refine mw_istore (pc' := 64) dX12_addsSecond_62 rfl (by decide) ?_
        show mW _ _ _ _ _ [some (.inr (some 47)), some (.inl v1), some (.inl v2), some (.inl v3), some (.inl v4), some (.inl x4), some (.inl (((65 * v4) + v3) * 65)), some (.inl x6)] _ _ _
        refine mw_iload (pc' := 66) dX12_addsSecond_64 rfl rfl ?_
        refine mw_if_le (pc' := 69) (tgt := 91) dX12_addsSecond_66 rfl (by decide) (fun c22 => ?_) (fun c22 => ?_)
        · replace K := K.1 c22
          refine mw_aload_n (pc' := 92) dX12_addsSecond_91 rfl rfl ?_
          refine mw_iload_n (pc' := 93) dX12_addsSecond_92 rfl rfl ?_
          refine mw_iload (pc' := 95) dX12_addsSecond_93 rfl rfl ?_
          refine mw_iload (pc' := 97) dX12_addsSecond_95 rfl rfl ?_
          refine mw_callV (pc' := 100) (b' := (0, 0)) (b1 := b) (av := [.inl v1, .inl x4, .inl v4]) (rest := []) dX12_addsSecond_97 rfl lkX12_425 rfl rfl (Nat.le_of_ble_eq_true rfl) ⟨Nat.le_of_eq (Nat.zero_add _), Nat.le_of_eq (Nat.zero_add _)⟩ (skT_47 hS) ?_
          refine mC_mono (fun r h7 hr => ?_) K
          obtain ⟨x8, rfl, hS, K⟩ := hr
          show mW _ _ _ _ _ _ [.inl x8] _ _
          refine mw_if_eq (pc' := 103) (tgt := 119) dX12_addsSecond_100 rfl (by decide) (fun c12 => ?_) (fun c12 => ?_)
          · replace K := K.1 c12
            refine mw_iinc (pc' := 122) (v := v4 + 1) dX12_addsSecond_119 rfl (by decide) rfl rfl ?_
            show mW _ _ _ _ _ [some (.inr (some 47)), some (.inl v1), some (.inl v2), some (.inl v3), some (.inl (v4 + 1)), some (.inl x4), some (.inl (((65 * v4) + v3) * 65)), some (.inl x6)] _ _ _
            refine mw_goto (tgt := 3) dX12_addsSecond_122 (by decide) ?_
            refine mw_weak (ls' := [some (.inr (some 47)), some (.inl v1), some (.inl v2), some (.inl v3), some (.inl (v4 + 1)), none, none, none]) ?_ ?_
            · intro i v hv; match i, hv with
              | 0, hv => exact hv
              | 1, hv => exact hv
              | 2, hv => exact hv
              | 3, hv => exact hv
              | 4, hv => exact hv
              | 5, hv => cases hv
              | 6, hv => cases hv
              | 7, hv => cases hv
              | n + 8, hv => cases hv
            exact K
          · replace K := K.2 c12
            refine mw_aload_n (pc' := 104) dX12_addsSecond_103 rfl rfl ?_
            refine mw_getR (pc' := 107) dX12_addsSecond_104 rfl flX12_129 rfl (skT_47 hS) ?_
            rw [skR_47_60 hS]
            refine mw_iload (pc' := 109) dX12_addsSecond_107 rfl rfl ?_
            refine mw_aload_n (pc' := 110) dX12_addsSecond_109 rfl rfl ?_
            refine mw_getR (pc' := 113) dX12_addsSecond_110 rfl flX12_129 rfl (skT_47 hS) ?_
            rw [skR_47_60 hS]
            refine mw_iload (pc' := 115) dX12_addsSecond_113 rfl rfl ?_
            obtain ⟨o9, K⟩ := K
            refine mw_ialdL (pc' := 116) dX12_addsSecond_115 rfl (skT_87 hS) (skL_87 hS) o9 ?_
            refine mw_iconst (pc' := 117) (v := 1) dX12_addsSecond_116 rfl (by decide) ?_
            refine mw_iadd (pc' := 118) dX12_addsSecond_117 rfl ?_
            obtain ⟨o10, K⟩ := K
            refine mw_iastK (pc' := 119) dX12_addsSecond_118 rfl (skT_87 hS) (skL_87 hS) o10 hS (fun h11 eh11 hS => ?_)
            replace K := K h11 eh11
            refine mw_iinc (pc' := 122) (v := v4 + 1) dX12_addsSecond_119 rfl (by decide) rfl rfl ?_
            show mW _ _ _ _ _ [some (.inr (some 47)), some (.inl v1), some (.inl v2), some (.inl v3), some (.inl (v4 + 1)), some (.inl x4), some (.inl (((65 * v4) + v3) * 65)), some (.inl x6)] _ _ _
            refine mw_goto (tgt := 3) dX12_addsSecond_122 (by decide) ?_
            refine mw_weak (ls' := [some (.inr (some 47)), some (.inl v1), some (.inl v2), some (.inl v3), some (.inl (v4 + 1)), none, none, none]) ?_ ?_
            · intro i v hv; match i, hv with
              | 0, hv => exact hv
              | 1, hv => exact hv
              | 2, hv => exact hv
              | 3, hv => exact hv
              | 4, hv => exact hv
              | 5, hv => cases hv
              | 6, hv => cases hv
              | 7, hv => cases hv
              | n + 8, hv => cases hv
            exact K
        · replace K := K.2 c22
          refine mw_aload_n (pc' := 70) dX12_addsSecond_69 rfl rfl ?_
          refine mw_getR (pc' := 73) dX12_addsSecond_70 rfl flX12_129 rfl (skT_47 hS) ?_
          rw [skR_47_60 hS]
          refine mw_iload (pc' := 75) dX12_addsSecond_73 rfl rfl ?_
          refine mw_iload (pc' := 77) dX12_addsSecond_75 rfl rfl ?_
          refine mw_iadd (pc' := 78) dX12_addsSecond_77 rfl ?_
          refine mw_aload_n (pc' := 79) dX12_addsSecond_78 rfl rfl ?_
          refine mw_getR (pc' := 82) dX12_addsSecond_79 rfl flX12_129 rfl (skT_47 hS) ?_
          rw [skR_47_60 hS]
          refine mw_iload (pc' := 84) dX12_addsSecond_82 rfl rfl ?_
          refine mw_iload (pc' := 86) dX12_addsSecond_84 rfl rfl ?_
          refine mw_iadd (pc' := 87) dX12_addsSecond_86 rfl ?_
          obtain ⟨o13, K⟩ := K
          refine mw_ialdL (pc' := 88) dX12_addsSecond_87 rfl (skT_87 hS) (skL_87 hS) o13 ?_
          refine mw_iconst (pc' := 89) (v := 1) dX12_addsSecond_88 rfl (by decide) ?_
          refine mw_iadd (pc' := 90) dX12_addsSecond_89 rfl ?_
          obtain ⟨o14, K⟩ := K
          refine mw_iastK (pc' := 91) dX12_addsSecond_90 rfl (skT_87 hS) (skL_87 hS) o14 hS (fun h15 eh15 hS => ?_)
          replace K := K h15 eh15
          refine mw_aload_n (pc' := 92) dX12_addsSecond_91 rfl rfl ?_
          refine mw_iload_n (pc' := 93) dX12_addsSecond_92 rfl rfl ?_
          refine mw_iload (pc' := 95) dX12_addsSecond_93 rfl rfl ?_
          refine mw_iload (pc' := 97) dX12_addsSecond_95 rfl rfl ?_
          refine mw_callV (pc' := 100) (b' := (0, 0)) (b1 := b) (av := [.inl v1, .inl x4, .inl v4]) (rest := []) dX12_addsSecond_97 rfl lkX12_425 rfl rfl (Nat.le_of_ble_eq_true rfl) ⟨Nat.le_of_eq (Nat.zero_add _), Nat.le_of_eq (Nat.zero_add _)⟩ (skT_47 hS) ?_
          refine mC_mono (fun r h16 hr => ?_) K
          obtain ⟨x17, rfl, hS, K⟩ := hr
          show mW _ _ _ _ _ _ [.inl x17] _ _
          refine mw_if_eq (pc' := 103) (tgt := 119) dX12_addsSecond_100 rfl (by decide) (fun c21 => ?_) (fun c21 => ?_)
          · replace K := K.1 c21
            refine mw_iinc (pc' := 122) (v := v4 + 1) dX12_addsSecond_119 rfl (by decide) rfl rfl ?_
            show mW _ _ _ _ _ [some (.inr (some 47)), some (.inl v1), some (.inl v2), some (.inl v3), some (.inl (v4 + 1)), some (.inl x4), some (.inl (((65 * v4) + v3) * 65)), some (.inl x6)] _ _ _
            refine mw_goto (tgt := 3) dX12_addsSecond_122 (by decide) ?_
            refine mw_weak (ls' := [some (.inr (some 47)), some (.inl v1), some (.inl v2), some (.inl v3), some (.inl (v4 + 1)), none, none, none]) ?_ ?_
            · intro i v hv; match i, hv with
              | 0, hv => exact hv
              | 1, hv => exact hv
              | 2, hv => exact hv
              | 3, hv => exact hv
              | 4, hv => exact hv
              | 5, hv => cases hv
              | 6, hv => cases hv
              | 7, hv => cases hv
              | n + 8, hv => cases hv
            exact K
          · replace K := K.2 c21
            refine mw_aload_n (pc' := 104) dX12_addsSecond_103 rfl rfl ?_
            refine mw_getR (pc' := 107) dX12_addsSecond_104 rfl flX12_129 rfl (skT_47 hS) ?_
            rw [skR_47_60 hS]
            refine mw_iload (pc' := 109) dX12_addsSecond_107 rfl rfl ?_
            refine mw_aload_n (pc' := 110) dX12_addsSecond_109 rfl rfl ?_
            refine mw_getR (pc' := 113) dX12_addsSecond_110 rfl flX12_129 rfl (skT_47 hS) ?_
            rw [skR_47_60 hS]
            refine mw_iload (pc' := 115) dX12_addsSecond_113 rfl rfl ?_
            obtain ⟨o18, K⟩ := K
            refine mw_ialdL (pc' := 116) dX12_addsSecond_115 rfl (skT_87 hS) (skL_87 hS) o18 ?_
            refine mw_iconst (pc' := 117) (v := 1) dX12_addsSecond_116 rfl (by decide) ?_
            refine mw_iadd (pc' := 118) dX12_addsSecond_117 rfl ?_
            obtain ⟨o19, K⟩ := K
            refine mw_iastK (pc' := 119) dX12_addsSecond_118 rfl (skT_87 hS) (skL_87 hS) o19 hS (fun h20 eh20 hS => ?_)
            replace K := K h20 eh20
            refine mw_iinc (pc' := 122) (v := v4 + 1) dX12_addsSecond_119 rfl (by decide) rfl rfl ?_
            show mW _ _ _ _ _ [some (.inr (some 47)), some (.inl v1), some (.inl v2), some (.inl v3), some (.inl (v4 + 1)), some (.inl x4), some (.inl (((65 * v4) + v3) * 65)), some (.inl x6)] _ _ _
            refine mw_goto (tgt := 3) dX12_addsSecond_122 (by decide) ?_
            refine mw_weak (ls' := [some (.inr (some 47)), some (.inl v1), some (.inl v2), some (.inl v3), some (.inl (v4 + 1)), none, none, none]) ?_ ?_
            · intro i v hv; match i, hv with
              | 0, hv => exact hv
              | 1, hv => exact hv
              | 2, hv => exact hv
              | 3, hv => exact hv
              | 4, hv => exact hv
              | 5, hv => cases hv
              | 6, hv => cases hv
              | 7, hv => cases hv
              | n + 8, hv => cases hv
            exact K
      · replace K := K.2 c23
        refine mw_goto (tgt := 119) dX12_addsSecond_38 (by decide) ?_
        refine mw_iinc (pc' := 122) (v := v4 + 1) dX12_addsSecond_119 rfl (by decide) rfl rfl ?_
        show mW _ _ _ _ _ [some (.inr (some 47)), some (.inl v1), some (.inl v2), some (.inl v3), some (.inl (v4 + 1)), some (.inl x4), none, none] _ _ _
        refine mw_goto (tgt := 3) dX12_addsSecond_122 (by decide) ?_
        refine mw_weak (ls' := [some (.inr (some 47)), some (.inl v1), some (.inl v2), some (.inl v3), some (.inl (v4 + 1)), none, none, none]) ?_ ?_
        · intro i v hv; match i, hv with
          | 0, hv => exact hv
          | 1, hv => exact hv
          | 2, hv => exact hv
          | 3, hv => exact hv
          | 4, hv => exact hv
          | 5, hv => cases hv
          | 6, hv => cases hv
          | 7, hv => cases hv
          | n + 8, hv => cases hv
        exact K
    · replace K := K.2 c24
      refine mw_goto (tgt := 119) dX12_addsSecond_19 (by decide) ?_
      refine mw_iinc (pc' := 122) (v := v4 + 1) dX12_addsSecond_119 rfl (by decide) rfl rfl ?_
      show mW _ _ _ _ _ [some (.inr (some 47)), some (.inl v1), some (.inl v2), some (.inl v3), some (.inl (v4 + 1)), none, none, none] _ _ _
      refine mw_goto (tgt := 3) dX12_addsSecond_122 (by decide) ?_
      exact K

set_option maxRecDepth 100000 in
set_option maxHeartbeats 4000000 in
theorem qX12_mostSecond {G : mG} {d : Nat} {b : Nat × Nat} {h : mH} {Q : Option mV → mH → Prop} (v1 : Int32) (v2 : Int32) (hS : mSk h)
    (K : mW G kX12_mostSecond d b 5 [some (.inr (some 47)), some (.inl v1), some (.inl v2), some (.inl 0), some (.inl 0)] [] h Q) : mC G kX12_mostSecond d b [.inr (some 47), .inl v1, .inl v2] h Q := by
  refine mC_in rfl (Nat.le_of_ble_eq_true rfl) ?_
  show mW _ _ _ _ _ [some (.inr (some 47)), some (.inl v1), some (.inl v2), none, none] _ _ _
  refine mw_iconst (pc' := 1) (v := 0) dX12_mostSecond_0 rfl (by decide) ?_
  refine mw_istore_n (pc' := 2) dX12_mostSecond_1 rfl (by decide) ?_
  show mW _ _ _ _ _ [some (.inr (some 47)), some (.inl v1), some (.inl v2), some (.inl 0), none] _ _ _
  refine mw_iconst (pc' := 3) (v := 0) dX12_mostSecond_2 rfl (by decide) ?_
  refine mw_istore (pc' := 5) dX12_mostSecond_3 rfl (by decide) ?_
  show mW _ _ _ _ _ [some (.inr (some 47)), some (.inl v1), some (.inl v2), some (.inl 0), some (.inl 0)] _ _ _
  exact K

set_option maxRecDepth 100000 in
set_option maxHeartbeats 4000000 in
theorem qX12_mostSecond_5 {G : mG} {d : Nat} {b : Nat × Nat} {h : mH} {Q : Option mV → mH → Prop} (v1 : Int32) (v2 : Int32) (v3 : Int32) (v4 : Int32) (hS : mSk h)
    (K : ((65 ≤ v4 → Q (some (.inl v3)) h) ∧ (¬ (65 ≤ v4) → vp_in ((((65 * v2) + v1) * 65) + v4) 25350 ∧ (((mI h 87 ((((65 * v2) + v1) * 65) + v4).toNatClampNeg) ≤ v3 → mW G kX12_mostSecond d b 5 [some (.inr (some 47)), some (.inl v1), some (.inl v2), some (.inl v3), some (.inl (v4 + 1))] [] h Q) ∧ (¬ ((mI h 87 ((((65 * v2) + v1) * 65) + v4).toNatClampNeg) ≤ v3) → vp_in ((((65 * v2) + v1) * 65) + v4) 25350 ∧ mW G kX12_mostSecond d b 5 [some (.inr (some 47)), some (.inl v1), some (.inl v2), some (.inl (mI h 87 ((((65 * v2) + v1) * 65) + v4).toNatClampNeg)), some (.inl (v4 + 1))] [] h Q))))) : mW G kX12_mostSecond d b 5 [some (.inr (some 47)), some (.inl v1), some (.inl v2), some (.inl v3), some (.inl v4)] [] h Q := by
  refine mw_iload (pc' := 7) dX12_mostSecond_5 rfl rfl ?_
  refine mw_bipush (pc' := 9) (v := 65) dX12_mostSecond_7 rfl (by decide) ?_
  refine mw_icmp_ge (pc' := 12) (tgt := 61) dX12_mostSecond_9 rfl (by decide) (fun c4 => ?_) (fun c4 => ?_)
  · replace K := K.1 c4
    refine mw_iload_n (pc' := 62) dX12_mostSecond_61 rfl rfl ?_
    exact mw_iret dX12_mostSecond_62 rfl rfl K
  · replace K := K.2 c4
    refine mw_aload_n (pc' := 13) dX12_mostSecond_12 rfl rfl ?_
    refine mw_getR (pc' := 16) dX12_mostSecond_13 rfl flX12_129 rfl (skT_47 hS) ?_
    rw [skR_47_60 hS]
    refine mw_bipush (pc' := 18) (v := 65) dX12_mostSecond_16 rfl (by decide) ?_
    refine mw_iload_n (pc' := 19) dX12_mostSecond_18 rfl rfl ?_
    refine mw_imul (pc' := 20) dX12_mostSecond_19 rfl ?_
    refine mw_iload_n (pc' := 21) dX12_mostSecond_20 rfl rfl ?_
    refine mw_iadd (pc' := 22) dX12_mostSecond_21 rfl ?_
    refine mw_bipush (pc' := 24) (v := 65) dX12_mostSecond_22 rfl (by decide) ?_
    refine mw_imul (pc' := 25) dX12_mostSecond_24 rfl ?_
    refine mw_iload (pc' := 27) dX12_mostSecond_25 rfl rfl ?_
    refine mw_iadd (pc' := 28) dX12_mostSecond_27 rfl ?_
    obtain ⟨o1, K⟩ := K
    refine mw_ialdL (pc' := 29) dX12_mostSecond_28 rfl (skT_87 hS) (skL_87 hS) o1 ?_
    refine mw_iload_n (pc' := 30) dX12_mostSecond_29 rfl rfl ?_
    refine mw_icmp_le (pc' := 33) (tgt := 53) dX12_mostSecond_30 rfl (by decide) (fun c3 => ?_) (fun c3 => ?_)
    · replace K := K.1 c3
      refine mw_iload_n (pc' := 54) dX12_mostSecond_53 rfl rfl ?_
      refine mw_istore_n (pc' := 55) dX12_mostSecond_54 rfl (by decide) ?_
      show mW _ _ _ _ _ [some (.inr (some 47)), some (.inl v1), some (.inl v2), some (.inl v3), some (.inl v4)] _ _ _
      refine mw_iinc (pc' := 58) (v := v4 + 1) dX12_mostSecond_55 rfl (by decide) rfl rfl ?_
      show mW _ _ _ _ _ [some (.inr (some 47)), some (.inl v1), some (.inl v2), some (.inl v3), some (.inl (v4 + 1))] _ _ _
      refine mw_goto (tgt := 5) dX12_mostSecond_58 (by decide) ?_
      exact K
    · replace K := K.2 c3
      refine mw_aload_n (pc' := 34) dX12_mostSecond_33 rfl rfl ?_
      refine mw_getR (pc' := 37) dX12_mostSecond_34 rfl flX12_129 rfl (skT_47 hS) ?_
      rw [skR_47_60 hS]
      refine mw_bipush (pc' := 39) (v := 65) dX12_mostSecond_37 rfl (by decide) ?_
      refine mw_iload_n (pc' := 40) dX12_mostSecond_39 rfl rfl ?_
      refine mw_imul (pc' := 41) dX12_mostSecond_40 rfl ?_
      refine mw_iload_n (pc' := 42) dX12_mostSecond_41 rfl rfl ?_
      refine mw_iadd (pc' := 43) dX12_mostSecond_42 rfl ?_
      refine mw_bipush (pc' := 45) (v := 65) dX12_mostSecond_43 rfl (by decide) ?_
      refine mw_imul (pc' := 46) dX12_mostSecond_45 rfl ?_
      refine mw_iload (pc' := 48) dX12_mostSecond_46 rfl rfl ?_
      refine mw_iadd (pc' := 49) dX12_mostSecond_48 rfl ?_
      obtain ⟨o2, K⟩ := K
      refine mw_ialdL (pc' := 50) dX12_mostSecond_49 rfl (skT_87 hS) (skL_87 hS) o2 ?_
      refine mw_goto (tgt := 54) dX12_mostSecond_50 (by decide) ?_
      refine mw_istore_n (pc' := 55) dX12_mostSecond_54 rfl (by decide) ?_
      show mW _ _ _ _ _ [some (.inr (some 47)), some (.inl v1), some (.inl v2), some (.inl (mI h 87 ((((65 * v2) + v1) * 65) + v4).toNatClampNeg)), some (.inl v4)] _ _ _
      refine mw_iinc (pc' := 58) (v := v4 + 1) dX12_mostSecond_55 rfl (by decide) rfl rfl ?_
      show mW _ _ _ _ _ [some (.inr (some 47)), some (.inl v1), some (.inl v2), some (.inl (mI h 87 ((((65 * v2) + v1) * 65) + v4).toNatClampNeg)), some (.inl (v4 + 1))] _ _ _
      refine mw_goto (tgt := 5) dX12_mostSecond_58 (by decide) ?_
      exact K

set_option maxRecDepth 100000 in
set_option maxHeartbeats 4000000 in
theorem qX12_staysBy {G : mG} {d : Nat} {b : Nat × Nat} {h : mH} {Q : Option mV → mH → Prop} (v1 : Int32) (hS : mSk h)
    (K : mC G kX12_mostBy (d + 5) (0, 0) [.inr (some 47), .inl v1] h (fun r h1 => ∃ x2, r = some (.inl x2) ∧ mSk h1 ∧ mW G kX12_staysBy (d + 6) b 8 [some (.inr (some 47)), some (.inl v1), some (.inl 0), none, none, none] [] h1 Q)) : mC G kX12_staysBy (d + 6) b [.inr (some 47), .inl v1] h Q := by
  refine mC_in rfl (Nat.le_of_ble_eq_true rfl) ?_
  show mW _ _ _ _ _ [some (.inr (some 47)), some (.inl v1), none, none, none, none] _ _ _
  refine mw_aload_n (pc' := 1) dX12_staysBy_0 rfl rfl ?_
  refine mw_iload_n (pc' := 2) dX12_staysBy_1 rfl rfl ?_
  refine mw_callV (pc' := 5) (b' := (0, 0)) (b1 := b) (av := [.inl v1]) (rest := []) dX12_staysBy_2 rfl lkX12_437 rfl rfl (Nat.le_of_ble_eq_true rfl) ⟨Nat.le_of_eq (Nat.zero_add _), Nat.le_of_eq (Nat.zero_add _)⟩ (skT_47 hS) ?_
  refine mC_mono (fun r h1 hr => ?_) K
  obtain ⟨x2, rfl, hS, K⟩ := hr
  show mW _ _ _ _ _ _ [.inl x2] _ _
  refine mw_pop (pc' := 6) dX12_staysBy_5 rfl ?_
  refine mw_iconst (pc' := 7) (v := 0) dX12_staysBy_6 rfl (by decide) ?_
  refine mw_istore_n (pc' := 8) dX12_staysBy_7 rfl (by decide) ?_
  show mW _ _ _ _ _ [some (.inr (some 47)), some (.inl v1), some (.inl 0), none, none, none] _ _ _
  exact K

set_option maxRecDepth 100000 in
set_option maxHeartbeats 4000000 in
theorem qX12_staysBy_8 {G : mG} {d : Nat} {b : Nat × Nat} {h : mH} {Q : Option mV → mH → Prop} (v1 : Int32) (v2 : Int32) (hS : mSk h)
    (K : ((25350 ≤ v2 → mW G kX12_staysBy (d + 6) b 30 [some (.inr (some 47)), some (.inl v1), some (.inl 0), none, none, none] [] h Q) ∧ (¬ (25350 ≤ v2) → vp_in v2 25350 ∧ ∀ h2, h2 = mSI h 87 v2.toNatClampNeg 0 → mW G kX12_staysBy (d + 6) b 8 [some (.inr (some 47)), some (.inl v1), some (.inl (v2 + 1)), none, none, none] [] h2 Q))) : mW G kX12_staysBy (d + 6) b 8 [some (.inr (some 47)), some (.inl v1), some (.inl v2), none, none, none] [] h Q := by
  refine mw_iload_n (pc' := 9) dX12_staysBy_8 rfl rfl ?_
  refine mw_sipush (pc' := 12) (v := 25350) dX12_staysBy_9 rfl (by decide) ?_
  refine mw_icmp_ge (pc' := 15) (tgt := 28) dX12_staysBy_12 rfl (by decide) (fun c3 => ?_) (fun c3 => ?_)
  · replace K := K.1 c3
    refine mw_iconst (pc' := 29) (v := 0) dX12_staysBy_28 rfl (by decide) ?_
    refine mw_istore_n (pc' := 30) dX12_staysBy_29 rfl (by decide) ?_
    show mW _ _ _ _ _ [some (.inr (some 47)), some (.inl v1), some (.inl 0), none, none, none] _ _ _
    exact K
  · replace K := K.2 c3
    refine mw_aload_n (pc' := 16) dX12_staysBy_15 rfl rfl ?_
    refine mw_getR (pc' := 19) dX12_staysBy_16 rfl flX12_129 rfl (skT_47 hS) ?_
    rw [skR_47_60 hS]
    refine mw_iload_n (pc' := 20) dX12_staysBy_19 rfl rfl ?_
    refine mw_iconst (pc' := 21) (v := 0) dX12_staysBy_20 rfl (by decide) ?_
    obtain ⟨o1, K⟩ := K
    refine mw_iastK (pc' := 22) dX12_staysBy_21 rfl (skT_87 hS) (skL_87 hS) o1 hS (fun h2 eh2 hS => ?_)
    replace K := K h2 eh2
    refine mw_iinc (pc' := 25) (v := v2 + 1) dX12_staysBy_22 rfl (by decide) rfl rfl ?_
    show mW _ _ _ _ _ [some (.inr (some 47)), some (.inl v1), some (.inl (v2 + 1)), none, none, none] _ _ _
    refine mw_goto (tgt := 8) dX12_staysBy_25 (by decide) ?_
    exact K

set_option maxRecDepth 100000 in
set_option maxHeartbeats 4000000 in
theorem qX12_staysBy_30 {G : mG} {d : Nat} {b : Nat × Nat} {h : mH} {Q : Option mV → mH → Prop} (v1 : Int32) (v2 : Int32) (hS : mSk h)
    (K : (((mI h 47 53) ≤ v2 → mW G kX12_staysBy (d + 6) b 121 [some (.inr (some 47)), none, some (.inl 0), some (.inl 0), none, none] [] h Q) ∧ (¬ ((mI h 47 53) ≤ v2) → vp_in v2 8192 ∧ vp_in v2 8192 ∧ mC G kX12_movedBy (d + 5) (0, 0) [.inr (some 47), .inl (mI h 84 v2.toNatClampNeg), .inl (mI h 85 v2.toNatClampNeg), .inl v1] h (fun r h3 => ∃ x4, r = some (.inl x4) ∧ mSk h3 ∧ ((¬ x4 = (-1) → mC G kX12_countAt (d + 5) (0, 0) [.inr (some 47), .inl (mI h 84 v2.toNatClampNeg), .inl x4, .inl v1] h3 (fun r h5 => ∃ x6, r = some (.inl x6) ∧ mSk h5 ∧ ((x6 ≤ 0 → mC G kX12_mayBeSilent (d + 5) (0, 0) [.inr (some 47), .inl (mI h 84 v2.toNatClampNeg), .inl x4, .inl v1] h5 (fun r h7 => ∃ x8, r = some (.inl x8) ∧ mSk h7 ∧ ((x8 = 0 → mW G kX12_staysBy (d + 6) b 30 [some (.inr (some 47)), some (.inl v1), some (.inl (v2 + 1)), none, none, none] [] h7 Q) ∧ (¬ x8 = 0 → mC G kX12_addsSecond (d + 5) (0, 0) [.inr (some 47), .inl (mI h 84 v2.toNatClampNeg), .inl x4, .inl 0] h7 (fun r h9 => r = none ∧ mSk h9 ∧ mW G kX12_staysBy (d + 6) b 30 [some (.inr (some 47)), some (.inl v1), some (.inl (v2 + 1)), none, none, none] [] h9 Q))))) ∧ (¬ (x6 ≤ 0) → mC G kX12_addsSecond (d + 5) (0, 0) [.inr (some 47), .inl (mI h 84 v2.toNatClampNeg), .inl x4, .inl x6] h5 (fun r h11 => r = none ∧ mSk h11 ∧ mC G kX12_mayBeSilent (d + 5) (0, 0) [.inr (some 47), .inl (mI h 84 v2.toNatClampNeg), .inl x4, .inl v1] h11 (fun r h12 => ∃ x13, r = some (.inl x13) ∧ mSk h12 ∧ ((x13 = 0 → mW G kX12_staysBy (d + 6) b 30 [some (.inr (some 47)), some (.inl v1), some (.inl (v2 + 1)), none, none, none] [] h12 Q) ∧ (¬ x13 = 0 → mC G kX12_addsSecond (d + 5) (0, 0) [.inr (some 47), .inl (mI h 84 v2.toNatClampNeg), .inl x4, .inl 0] h12 (fun r h14 => r = none ∧ mSk h14 ∧ mW G kX12_staysBy (d + 6) b 30 [some (.inr (some 47)), some (.inl v1), some (.inl (v2 + 1)), none, none, none] [] h14 Q))))))))) ∧ (x4 = (-1) → mW G kX12_staysBy (d + 6) b 30 [some (.inr (some 47)), some (.inl v1), some (.inl (v2 + 1)), none, none, none] [] h3 Q)))))) : mW G kX12_staysBy (d + 6) b 30 [some (.inr (some 47)), some (.inl v1), some (.inl v2), none, none, none] [] h Q := by
  refine mw_iload_n (pc' := 31) dX12_staysBy_30 rfl rfl ?_
  refine mw_aload_n (pc' := 32) dX12_staysBy_31 rfl rfl ?_
  refine mw_getI (pc' := 35) dX12_staysBy_32 rfl flX12_416 rfl (skT_47 hS) ?_
  refine mw_icmp_ge (pc' := 38) (tgt := 117) dX12_staysBy_35 rfl (by decide) (fun c18 => ?_) (fun c18 => ?_)
  · replace K := K.1 c18
    refine mw_iconst (pc' := 118) (v := 0) dX12_staysBy_117 rfl (by decide) ?_
    refine mw_istore_n (pc' := 119) dX12_staysBy_118 rfl (by decide) ?_
    show mW _ _ _ _ _ [some (.inr (some 47)), some (.inl v1), some (.inl 0), none, none, none] _ _ _
    refine mw_iconst (pc' := 120) (v := 0) dX12_staysBy_119 rfl (by decide) ?_
    refine mw_istore_n (pc' := 121) dX12_staysBy_120 rfl (by decide) ?_
    show mW _ _ _ _ _ [some (.inr (some 47)), some (.inl v1), some (.inl 0), some (.inl 0), none, none] _ _ _
    refine mw_weak (ls' := [some (.inr (some 47)), none, some (.inl 0), some (.inl 0), none, none]) ?_ ?_
    · intro i v hv; match i, hv with
      | 0, hv => exact hv
      | 1, hv => cases hv
      | 2, hv => exact hv
      | 3, hv => exact hv
      | 4, hv => cases hv
      | 5, hv => cases hv
      | n + 6, hv => cases hv
    exact K
  · replace K := K.2 c18
    refine mw_aload_n (pc' := 39) dX12_staysBy_38 rfl rfl ?_
    refine mw_getR (pc' := 42) dX12_staysBy_39 rfl flX12_120 rfl (skT_47 hS) ?_
    rw [skR_47_57 hS]
    refine mw_iload_n (pc' := 43) dX12_staysBy_42 rfl rfl ?_
    obtain ⟨o1, K⟩ := K
    refine mw_ialdL (pc' := 44) dX12_staysBy_43 rfl (skT_84 hS) (skL_84 hS) o1 ?_
    refine mw_istore_n (pc' := 45) dX12_staysBy_44 rfl (by decide) ?_
    show mW _ _ _ _ _ [some (.inr (some 47)), some (.inl v1), some (.inl v2), some (.inl (mI h 84 v2.toNatClampNeg)), none, none] _ _ _
    refine mw_aload_n (pc' := 46) dX12_staysBy_45 rfl rfl ?_
    refine mw_iload_n (pc' := 47) dX12_staysBy_46 rfl rfl ?_
    refine mw_aload_n (pc' := 48) dX12_staysBy_47 rfl rfl ?_
    refine mw_getR (pc' := 51) dX12_staysBy_48 rfl flX12_123 rfl (skT_47 hS) ?_
    rw [skR_47_58 hS]
    refine mw_iload_n (pc' := 52) dX12_staysBy_51 rfl rfl ?_
    obtain ⟨o2, K⟩ := K
    refine mw_ialdL (pc' := 53) dX12_staysBy_52 rfl (skT_85 hS) (skL_85 hS) o2 ?_
    refine mw_iload_n (pc' := 54) dX12_staysBy_53 rfl rfl ?_
    refine mw_callV (pc' := 57) (b' := (0, 0)) (b1 := b) (av := [.inl (mI h 84 v2.toNatClampNeg), .inl (mI h 85 v2.toNatClampNeg), .inl v1]) (rest := []) dX12_staysBy_54 rfl lkX12_419 rfl rfl (Nat.le_of_ble_eq_true rfl) ⟨Nat.le_of_eq (Nat.zero_add _), Nat.le_of_eq (Nat.zero_add _)⟩ (skT_47 hS) ?_
    refine mC_mono (fun r h3 hr => ?_) K
    obtain ⟨x4, rfl, hS, K⟩ := hr
    show mW _ _ _ _ _ _ [.inl x4] _ _
    refine mw_istore (pc' := 59) dX12_staysBy_57 rfl (by decide) ?_
    show mW _ _ _ _ _ [some (.inr (some 47)), some (.inl v1), some (.inl v2), some (.inl (mI h 84 v2.toNatClampNeg)), some (.inl x4), none] _ _ _
    refine mw_iload (pc' := 61) dX12_staysBy_59 rfl rfl ?_
    refine mw_iconst (pc' := 62) (v := (-1)) dX12_staysBy_61 rfl (by decide) ?_
    refine mw_icmp_ne (pc' := 65) (tgt := 68) dX12_staysBy_62 rfl (by decide) (fun c17 => ?_) (fun c17 => ?_)
    · replace K := K.1 c17
      refine mw_aload_n (pc' := 69) dX12_staysBy_68 rfl rfl ?_
      refine mw_iload_n (pc' := 70) dX12_staysBy_69 rfl rfl ?_
      refine mw_iload (pc' := 72) dX12_staysBy_70 rfl rfl ?_
      refine mw_iload_n (pc' := 73) dX12_staysBy_72 rfl rfl ?_
      refine mw_callV (pc' := 76) (b' := (0, 0)) (b1 := b) (av := [.inl (mI h 84 v2.toNatClampNeg), .inl x4, .inl v1]) (rest := []) dX12_staysBy_73 rfl lkX12_422 rfl rfl (Nat.le_of_ble_eq_true rfl) ⟨Nat.le_of_eq (Nat.zero_add _), Nat.le_of_eq (Nat.zero_add _)⟩ (skT_47 hS) ?_
      refine mC_mono (fun r h5 hr => ?_) K
      obtain ⟨x6, rfl, hS, K⟩ := hr
      show mW _ _ _ _ _ _ [.inl x6] _ _
      refine mw_istore (pc' := 78) dX12_staysBy_76 rfl (by decide) ?_
      show mW _ _ _ _ _ [some (.inr (some 47)), some (.inl v1), some (.inl v2), some (.inl (mI h 84 v2.toNatClampNeg)), some (.inl x4), some (.inl x6)] _ _ _
      refine mw_iload (pc' := 80) dX12_staysBy_78 rfl rfl ?_
      refine mw_if_le (pc' := 83) (tgt := 92) dX12_staysBy_80 rfl (by decide) (fun c16 => ?_) (fun c16 => ?_)
      · replace K := K.1 c16
        refine mw_aload_n (pc' := 93) dX12_staysBy_92 rfl rfl ?_
        refine mw_iload_n (pc' := 94) dX12_staysBy_93 rfl rfl ?_
        refine mw_iload (pc' := 96) dX12_staysBy_94 rfl rfl ?_
        refine mw_iload_n (pc' := 97) dX12_staysBy_96 rfl rfl ?_
        refine mw_callV (pc' := 100) (b' := (0, 0)) (b1 := b) (av := [.inl (mI h 84 v2.toNatClampNeg), .inl x4, .inl v1]) (rest := []) dX12_staysBy_97 rfl lkX12_425 rfl rfl (Nat.le_of_ble_eq_true rfl) ⟨Nat.le_of_eq (Nat.zero_add _), Nat.le_of_eq (Nat.zero_add _)⟩ (skT_47 hS) ?_
        refine mC_mono (fun r h7 hr => ?_) K
        obtain ⟨x8, rfl, hS, K⟩ := hr
        show mW _ _ _ _ _ _ [.inl x8] _ _
        refine mw_if_eq (pc' := 103) (tgt := 111) dX12_staysBy_100 rfl (by decide) (fun c10 => ?_) (fun c10 => ?_)
        · replace K := K.1 c10
          refine mw_iinc (pc' := 114) (v := v2 + 1) dX12_staysBy_111 rfl (by decide) rfl rfl ?_
          show mW _ _ _ _ _ [some (.inr (some 47)), some (.inl v1), some (.inl (v2 + 1)), some (.inl (mI h 84 v2.toNatClampNeg)), some (.inl x4), some (.inl x6)] _ _ _
          refine mw_goto (tgt := 30) dX12_staysBy_114 (by decide) ?_
          refine mw_weak (ls' := [some (.inr (some 47)), some (.inl v1), some (.inl (v2 + 1)), none, none, none]) ?_ ?_
          · intro i v hv; match i, hv with
            | 0, hv => exact hv
            | 1, hv => exact hv
            | 2, hv => exact hv
            | 3, hv => cases hv
            | 4, hv => cases hv
            | 5, hv => cases hv
            | n + 6, hv => cases hv
          exact K
        · replace K := K.2 c10
          refine mw_aload_n (pc' := 104) dX12_staysBy_103 rfl rfl ?_
          refine mw_iload_n (pc' := 105) dX12_staysBy_104 rfl rfl ?_
          refine mw_iload (pc' := 107) dX12_staysBy_105 rfl rfl ?_
          refine mw_iconst (pc' := 108) (v := 0) dX12_staysBy_107 rfl (by decide) ?_
          refine mw_callV (pc' := 111) (b' := (0, 0)) (b1 := b) (av := [.inl (mI h 84 v2.toNatClampNeg), .inl x4, .inl 0]) (rest := []) dX12_staysBy_108 rfl lkX12_443 rfl rfl (Nat.le_of_ble_eq_true rfl) ⟨Nat.le_of_eq (Nat.zero_add _), Nat.le_of_eq (Nat.zero_add _)⟩ (skT_47 hS) ?_
          refine mC_mono (fun r h9 hr => ?_) K
          obtain ⟨rfl, hS, K⟩ := hr
          show mW _ _ _ _ _ _ [] _ _
          refine mw_iinc (pc' := 114) (v := v2 + 1) dX12_staysBy_111 rfl (by decide) rfl rfl ?_
          show mW _ _ _ _ _ [some (.inr (some 47)), some (.inl v1), some (.inl (v2 + 1)), some (.inl (mI h 84 v2.toNatClampNeg)), some (.inl x4), some (.inl x6)] _ _ _
          refine mw_goto (tgt := 30) dX12_staysBy_114 (by decide) ?_
          refine mw_weak (ls' := [some (.inr (some 47)), some (.inl v1), some (.inl (v2 + 1)), none, none, none]) ?_ ?_
          · intro i v hv; match i, hv with
            | 0, hv => exact hv
            | 1, hv => exact hv
            | 2, hv => exact hv
            | 3, hv => cases hv
            | 4, hv => cases hv
            | 5, hv => cases hv
            | n + 6, hv => cases hv
          exact K
      · replace K := K.2 c16
        refine mw_aload_n (pc' := 84) dX12_staysBy_83 rfl rfl ?_
        refine mw_iload_n (pc' := 85) dX12_staysBy_84 rfl rfl ?_
        refine mw_iload (pc' := 87) dX12_staysBy_85 rfl rfl ?_
        refine mw_iload (pc' := 89) dX12_staysBy_87 rfl rfl ?_
        refine mw_callV (pc' := 92) (b' := (0, 0)) (b1 := b) (av := [.inl (mI h 84 v2.toNatClampNeg), .inl x4, .inl x6]) (rest := []) dX12_staysBy_89 rfl lkX12_443 rfl rfl (Nat.le_of_ble_eq_true rfl) ⟨Nat.le_of_eq (Nat.zero_add _), Nat.le_of_eq (Nat.zero_add _)⟩ (skT_47 hS) ?_
        refine mC_mono (fun r h11 hr => ?_) K
        obtain ⟨rfl, hS, K⟩ := hr
        show mW _ _ _ _ _ _ [] _ _
        refine mw_aload_n (pc' := 93) dX12_staysBy_92 rfl rfl ?_
        refine mw_iload_n (pc' := 94) dX12_staysBy_93 rfl rfl ?_
        refine mw_iload (pc' := 96) dX12_staysBy_94 rfl rfl ?_
        refine mw_iload_n (pc' := 97) dX12_staysBy_96 rfl rfl ?_
        refine mw_callV (pc' := 100) (b' := (0, 0)) (b1 := b) (av := [.inl (mI h 84 v2.toNatClampNeg), .inl x4, .inl v1]) (rest := []) dX12_staysBy_97 rfl lkX12_425 rfl rfl (Nat.le_of_ble_eq_true rfl) ⟨Nat.le_of_eq (Nat.zero_add _), Nat.le_of_eq (Nat.zero_add _)⟩ (skT_47 hS) ?_
        refine mC_mono (fun r h12 hr => ?_) K
        obtain ⟨x13, rfl, hS, K⟩ := hr
        show mW _ _ _ _ _ _ [.inl x13] _ _
        refine mw_if_eq (pc' := 103) (tgt := 111) dX12_staysBy_100 rfl (by decide) (fun c15 => ?_) (fun c15 => ?_)
        · replace K := K.1 c15
          refine mw_iinc (pc' := 114) (v := v2 + 1) dX12_staysBy_111 rfl (by decide) rfl rfl ?_
          show mW _ _ _ _ _ [some (.inr (some 47)), some (.inl v1), some (.inl (v2 + 1)), some (.inl (mI h 84 v2.toNatClampNeg)), some (.inl x4), some (.inl x6)] _ _ _
          refine mw_goto (tgt := 30) dX12_staysBy_114 (by decide) ?_
          refine mw_weak (ls' := [some (.inr (some 47)), some (.inl v1), some (.inl (v2 + 1)), none, none, none]) ?_ ?_
          · intro i v hv; match i, hv with
            | 0, hv => exact hv
            | 1, hv => exact hv
            | 2, hv => exact hv
            | 3, hv => cases hv
            | 4, hv => cases hv
            | 5, hv => cases hv
            | n + 6, hv => cases hv
          exact K
        · replace K := K.2 c15
          refine mw_aload_n (pc' := 104) dX12_staysBy_103 rfl rfl ?_
          refine mw_iload_n (pc' := 105) dX12_staysBy_104 rfl rfl ?_
          refine mw_iload (pc' := 107) dX12_staysBy_105 rfl rfl ?_
          refine mw_iconst (pc' := 108) (v := 0) dX12_staysBy_107 rfl (by decide) ?_
          refine mw_callV (pc' := 111) (b' := (0, 0)) (b1 := b) (av := [.inl (mI h 84 v2.toNatClampNeg), .inl x4, .inl 0]) (rest := []) dX12_staysBy_108 rfl lkX12_443 rfl rfl (Nat.le_of_ble_eq_true rfl) ⟨Nat.le_of_eq (Nat.zero_add _), Nat.le_of_eq (Nat.zero_add _)⟩ (skT_47 hS) ?_
          refine mC_mono (fun r h14 hr => ?_) K
          obtain ⟨rfl, hS, K⟩ := hr
          show mW _ _ _ _ _ _ [] _ _
          refine mw_iinc (pc' := 114) (v := v2 + 1) dX12_staysBy_111 rfl (by decide) rfl rfl ?_
          show mW _ _ _ _ _ [some (.inr (some 47)), some (.inl v1), some (.inl (v2 + 1)), some (.inl (mI h 84 v2.toNatClampNeg)), some (.inl x4), some (.inl x6)] _ _ _
          refine mw_goto (tgt := 30) dX12_staysBy_114 (by decide) ?_
          refine mw_weak (ls' := [some (.inr (some 47)), some (.inl v1), some (.inl (v2 + 1)), none, none, none]) ?_ ?_
          · intro i v hv; match i, hv with
            | 0, hv => exact hv
            | 1, hv => exact hv
            | 2, hv => exact hv
            | 3, hv => cases hv
            | 4, hv => cases hv
            | 5, hv => cases hv
            | n + 6, hv => cases hv
          exact K
    · replace K := K.2 c17
      refine mw_goto (tgt := 111) dX12_staysBy_65 (by decide) ?_
      refine mw_iinc (pc' := 114) (v := v2 + 1) dX12_staysBy_111 rfl (by decide) rfl rfl ?_
      show mW _ _ _ _ _ [some (.inr (some 47)), some (.inl v1), some (.inl (v2 + 1)), some (.inl (mI h 84 v2.toNatClampNeg)), some (.inl x4), none] _ _ _
      refine mw_goto (tgt := 30) dX12_staysBy_114 (by decide) ?_
      refine mw_weak (ls' := [some (.inr (some 47)), some (.inl v1), some (.inl (v2 + 1)), none, none, none]) ?_ ?_
      · intro i v hv; match i, hv with
        | 0, hv => exact hv
        | 1, hv => exact hv
        | 2, hv => exact hv
        | 3, hv => cases hv
        | 4, hv => cases hv
        | 5, hv => cases hv
        | n + 6, hv => cases hv
      exact K

set_option maxRecDepth 100000 in
set_option maxHeartbeats 4000000 in
theorem qX12_staysBy_121 {G : mG} {d : Nat} {b : Nat × Nat} {h : mH} {Q : Option mV → mH → Prop} (v2 : Int32) (v3 : Int32) (hS : mSk h)
    (K : ((65 ≤ v3 → Q (some (.inl v2)) h) ∧ (¬ (65 ≤ v3) → vp_in v3 65 ∧ ((¬ (mI h 86 v3.toNatClampNeg) = 0 → mW G kX12_staysBy (d + 6) b 147 [some (.inr (some 47)), none, some (.inl v2), some (.inl v3), some (.inl 1000000000), some (.inl 0)] [] h Q) ∧ ((mI h 86 v3.toNatClampNeg) = 0 → mW G kX12_staysBy (d + 6) b 121 [some (.inr (some 47)), none, some (.inl v2), some (.inl (v3 + 1)), none, none] [] h Q))))) : mW G kX12_staysBy (d + 6) b 121 [some (.inr (some 47)), none, some (.inl v2), some (.inl v3), none, none] [] h Q := by
  refine mw_iload_n (pc' := 122) dX12_staysBy_121 rfl rfl ?_
  refine mw_bipush (pc' := 124) (v := 65) dX12_staysBy_122 rfl (by decide) ?_
  refine mw_icmp_ge (pc' := 127) (tgt := 202) dX12_staysBy_124 rfl (by decide) (fun c3 => ?_) (fun c3 => ?_)
  · replace K := K.1 c3
    refine mw_iload_n (pc' := 203) dX12_staysBy_202 rfl rfl ?_
    exact mw_iret dX12_staysBy_203 rfl rfl K
  · replace K := K.2 c3
    refine mw_aload_n (pc' := 128) dX12_staysBy_127 rfl rfl ?_
    refine mw_getR (pc' := 131) dX12_staysBy_128 rfl flX12_126 rfl (skT_47 hS) ?_
    rw [skR_47_59 hS]
    refine mw_iload_n (pc' := 132) dX12_staysBy_131 rfl rfl ?_
    obtain ⟨o1, K⟩ := K
    refine mw_ialdL (pc' := 133) dX12_staysBy_132 rfl (skT_86 hS) (skL_86 hS) o1 ?_
    refine mw_if_ne (pc' := 136) (tgt := 139) dX12_staysBy_133 rfl (by decide) (fun c2 => ?_) (fun c2 => ?_)
    · replace K := K.1 c2
      refine mw_ldcw (pc' := 142) dX12_staysBy_139 rfl cnX12_359 ?_
      refine mw_istore (pc' := 144) dX12_staysBy_142 rfl (by decide) ?_
      show mW _ _ _ _ _ [some (.inr (some 47)), none, some (.inl v2), some (.inl v3), some (.inl 1000000000), none] _ _ _
      refine mw_iconst (pc' := 145) (v := 0) dX12_staysBy_144 rfl (by decide) ?_
      refine mw_istore (pc' := 147) dX12_staysBy_145 rfl (by decide) ?_
      show mW _ _ _ _ _ [some (.inr (some 47)), none, some (.inl v2), some (.inl v3), some (.inl 1000000000), some (.inl 0)] _ _ _
      exact K
    · replace K := K.2 c2
      refine mw_goto (tgt := 196) dX12_staysBy_136 (by decide) ?_
      refine mw_iinc (pc' := 199) (v := v3 + 1) dX12_staysBy_196 rfl (by decide) rfl rfl ?_
      show mW _ _ _ _ _ [some (.inr (some 47)), none, some (.inl v2), some (.inl (v3 + 1)), none, none] _ _ _
      refine mw_goto (tgt := 121) dX12_staysBy_199 (by decide) ?_
      exact K

set_option maxRecDepth 100000 in
set_option maxHeartbeats 4000000 in
theorem qX12_staysBy_147 {G : mG} {d : Nat} {b : Nat × Nat} {h : mH} {Q : Option mV → mH → Prop} (v2 : Int32) (v3 : Int32) (v4 : Int32) (v5 : Int32) (hS : mSk h)
    (K : ((6 ≤ v5 → ∀ w1 : Int32, w1 = (if v4 ≤ v2 then v2 else v4) → mW G kX12_staysBy (d + 6) b 121 [some (.inr (some 47)), none, some (.inl w1), some (.inl (v3 + 1)), none, none] [] h Q) ∧ (¬ (6 ≤ v5) → mC G kX12_isChoice (d + 5) (0, 0) [.inr (some 47), .inl v5] h (fun r h4 => ∃ x5, r = some (.inl x5) ∧ mSk h4 ∧ ((x5 = 0 → mW G kX12_staysBy (d + 6) b 147 [some (.inr (some 47)), none, some (.inl v2), some (.inl v3), some (.inl v4), some (.inl (v5 + 1))] [] h4 Q) ∧ (¬ x5 = 0 → mC G kX12_mostSecond (d + 5) (0, 0) [.inr (some 47), .inl v3, .inl v5] h4 (fun r h6 => ∃ x7, r = some (.inl x7) ∧ mSk h6 ∧ mW G kX12_staysBy (d + 6) b 147 [some (.inr (some 47)), none, some (.inl v2), some (.inl v3), some (.inl (f_X12_least v4 x7)), some (.inl (v5 + 1))] [] h6 Q))))))) : mW G kX12_staysBy (d + 6) b 147 [some (.inr (some 47)), none, some (.inl v2), some (.inl v3), some (.inl v4), some (.inl v5)] [] h Q := by
  refine mw_iload (pc' := 149) dX12_staysBy_147 rfl rfl ?_
  refine mw_bipush (pc' := 151) (v := 6) dX12_staysBy_149 rfl (by decide) ?_
  refine mw_icmp_ge (pc' := 154) (tgt := 183) dX12_staysBy_151 rfl (by decide) (fun c9 => ?_) (fun c9 => ?_)
  · replace K := K.1 c9
    refine mw_iload (pc' := 185) dX12_staysBy_183 rfl rfl ?_
    refine mw_iload_n (pc' := 186) dX12_staysBy_185 rfl rfl ?_
    have J2 : ∀ w1 : Int32, w1 = (if v4 ≤ v2 then v2 else v4) → mW G kX12_staysBy (d + 6) b 195 [some (.inr (some 47)), none, some (.inl v2), some (.inl v3), some (.inl v4), some (.inl v5)] ([.inl w1]) h Q := by
      intro w1 ew1
      replace K := K w1 ew1
      refine mw_istore_n (pc' := 196) dX12_staysBy_195 rfl (by decide) ?_
      show mW _ _ _ _ _ [some (.inr (some 47)), none, some (.inl w1), some (.inl v3), some (.inl v4), some (.inl v5)] _ _ _
      refine mw_iinc (pc' := 199) (v := v3 + 1) dX12_staysBy_196 rfl (by decide) rfl rfl ?_
      show mW _ _ _ _ _ [some (.inr (some 47)), none, some (.inl w1), some (.inl (v3 + 1)), some (.inl v4), some (.inl v5)] _ _ _
      refine mw_goto (tgt := 121) dX12_staysBy_199 (by decide) ?_
      refine mw_weak (ls' := [some (.inr (some 47)), none, some (.inl w1), some (.inl (v3 + 1)), none, none]) ?_ ?_
      · intro i v hv; match i, hv with
        | 0, hv => exact hv
        | 1, hv => cases hv
        | 2, hv => exact hv
        | 3, hv => exact hv
        | 4, hv => cases hv
        | 5, hv => cases hv
        | n + 6, hv => cases hv
      exact K
    refine mw_icmp_le (pc' := 189) (tgt := 194) dX12_staysBy_186 rfl (by decide) (fun c3 => ?_) (fun c3 => ?_)
    · refine mw_iload_n (pc' := 195) dX12_staysBy_194 rfl rfl ?_
      exact J2 _ (by rw [if_pos c3])
    · refine mw_iload (pc' := 191) dX12_staysBy_189 rfl rfl ?_
      refine mw_goto (tgt := 195) dX12_staysBy_191 (by decide) ?_
      exact J2 _ (by rw [if_neg c3])
  · replace K := K.2 c9
    refine mw_aload_n (pc' := 155) dX12_staysBy_154 rfl rfl ?_
    refine mw_iload (pc' := 157) dX12_staysBy_155 rfl rfl ?_
    refine mw_callV (pc' := 160) (b' := (0, 0)) (b1 := b) (av := [.inl v5]) (rest := []) dX12_staysBy_157 rfl lkX12_434 rfl rfl (Nat.le_of_ble_eq_true rfl) ⟨Nat.le_of_eq (Nat.zero_add _), Nat.le_of_eq (Nat.zero_add _)⟩ (skT_47 hS) ?_
    refine mC_mono (fun r h4 hr => ?_) K
    obtain ⟨x5, rfl, hS, K⟩ := hr
    show mW _ _ _ _ _ _ [.inl x5] _ _
    refine mw_if_eq (pc' := 163) (tgt := 177) dX12_staysBy_160 rfl (by decide) (fun c8 => ?_) (fun c8 => ?_)
    · replace K := K.1 c8
      refine mw_iinc (pc' := 180) (v := v5 + 1) dX12_staysBy_177 rfl (by decide) rfl rfl ?_
      show mW _ _ _ _ _ [some (.inr (some 47)), none, some (.inl v2), some (.inl v3), some (.inl v4), some (.inl (v5 + 1))] _ _ _
      refine mw_goto (tgt := 147) dX12_staysBy_180 (by decide) ?_
      exact K
    · replace K := K.2 c8
      refine mw_iload (pc' := 165) dX12_staysBy_163 rfl rfl ?_
      refine mw_aload_n (pc' := 166) dX12_staysBy_165 rfl rfl ?_
      refine mw_iload_n (pc' := 167) dX12_staysBy_166 rfl rfl ?_
      refine mw_iload (pc' := 169) dX12_staysBy_167 rfl rfl ?_
      refine mw_callV (pc' := 172) (b' := (0, 0)) (b1 := b) (av := [.inl v3, .inl v5]) (rest := [.inl v4]) dX12_staysBy_169 rfl lkX12_447 rfl rfl (Nat.le_of_ble_eq_true rfl) ⟨Nat.le_of_eq (Nat.zero_add _), Nat.le_of_eq (Nat.zero_add _)⟩ (skT_47 hS) ?_
      refine mC_mono (fun r h6 hr => ?_) K
      obtain ⟨x7, rfl, hS, K⟩ := hr
      show mW _ _ _ _ _ _ [.inl x7, .inl v4] _ _
      refine mw_callS (pc' := 175) (b' := (0, 0)) (b1 := b) (av := [.inl v4, .inl x7]) (rest := []) dX12_staysBy_172 rfl lkX12_363 rfl rfl (Nat.le_of_ble_eq_true rfl) ⟨Nat.le_of_eq (Nat.zero_add _), Nat.le_of_eq (Nat.zero_add _)⟩ ?_
      refine pX12_least ?_
      refine mw_istore (pc' := 177) dX12_staysBy_175 rfl (by decide) ?_
      show mW _ _ _ _ _ [some (.inr (some 47)), none, some (.inl v2), some (.inl v3), some (.inl (f_X12_least v4 x7)), some (.inl v5)] _ _ _
      refine mw_iinc (pc' := 180) (v := v5 + 1) dX12_staysBy_177 rfl (by decide) rfl rfl ?_
      show mW _ _ _ _ _ [some (.inr (some 47)), none, some (.inl v2), some (.inl v3), some (.inl (f_X12_least v4 x7)), some (.inl (v5 + 1))] _ _ _
      refine mw_goto (tgt := 147) dX12_staysBy_180 (by decide) ?_
      exact K

set_option maxRecDepth 100000 in
set_option maxHeartbeats 4000000 in
theorem qX12_ahead {G : mG} {d : Nat} {b : Nat × Nat} {h : mH} {Q : Option mV → mH → Prop} (v1 : Int32) (hS : mSk h)
    (K : ((¬ (f_X12_in v1 0 1) = 0 → mC G kX12_canChoose (d + 8) (0, 0) [.inr (some 47)] h (fun r h1 => ∃ x2, r = some (.inl x2) ∧ mSk h1 ∧ ((¬ x2 = 0 → mW G kX12_ahead (d + 9) b 30 [some (.inr (some 47)), some (.inl v1), some (.inl (-1)), some (.inl 1000000000), some (.inl 0), none] [] h1 Q) ∧ (x2 = 0 → Q (some (.inl (-2))) h1)))) ∧ ((f_X12_in v1 0 1) = 0 → Q (some (.inl (-1))) h))) : mC G kX12_ahead (d + 9) b [.inr (some 47), .inl v1] h Q := by
  refine mC_in rfl (Nat.le_of_ble_eq_true rfl) ?_
  show mW _ _ _ _ _ [some (.inr (some 47)), some (.inl v1), none, none, none, none] _ _ _
  refine mw_iload_n (pc' := 1) dX12_ahead_0 rfl rfl ?_
  refine mw_iconst (pc' := 2) (v := 0) dX12_ahead_1 rfl (by decide) ?_
  refine mw_iconst (pc' := 3) (v := 1) dX12_ahead_2 rfl (by decide) ?_
  refine mw_callS (pc' := 6) (b' := (0, 0)) (b1 := b) (av := [.inl v1, .inl 0, .inl 1]) (rest := []) dX12_ahead_3 rfl lkX12_173 rfl rfl (Nat.le_of_ble_eq_true rfl) ⟨Nat.le_of_eq (Nat.zero_add _), Nat.le_of_eq (Nat.zero_add _)⟩ ?_
  refine pX12_in ?_
  refine mw_if_ne (pc' := 9) (tgt := 11) dX12_ahead_6 rfl (by decide) (fun c4 => ?_) (fun c4 => ?_)
  · replace K := K.1 c4
    refine mw_aload_n (pc' := 12) dX12_ahead_11 rfl rfl ?_
    refine mw_callV (pc' := 15) (b' := (0, 0)) (b1 := b) (av := []) (rest := []) dX12_ahead_12 rfl lkX12_431 rfl rfl (Nat.le_of_ble_eq_true rfl) ⟨Nat.le_of_eq (Nat.zero_add _), Nat.le_of_eq (Nat.zero_add _)⟩ (skT_47 hS) ?_
    refine mC_mono (fun r h1 hr => ?_) K
    obtain ⟨x2, rfl, hS, K⟩ := hr
    show mW _ _ _ _ _ _ [.inl x2] _ _
    refine mw_if_ne (pc' := 18) (tgt := 21) dX12_ahead_15 rfl (by decide) (fun c3 => ?_) (fun c3 => ?_)
    · replace K := K.1 c3
      refine mw_iconst (pc' := 22) (v := (-1)) dX12_ahead_21 rfl (by decide) ?_
      refine mw_istore_n (pc' := 23) dX12_ahead_22 rfl (by decide) ?_
      show mW _ _ _ _ _ [some (.inr (some 47)), some (.inl v1), some (.inl (-1)), none, none, none] _ _ _
      refine mw_ldcw (pc' := 26) dX12_ahead_23 rfl cnX12_359 ?_
      refine mw_istore_n (pc' := 27) dX12_ahead_26 rfl (by decide) ?_
      show mW _ _ _ _ _ [some (.inr (some 47)), some (.inl v1), some (.inl (-1)), some (.inl 1000000000), none, none] _ _ _
      refine mw_iconst (pc' := 28) (v := 0) dX12_ahead_27 rfl (by decide) ?_
      refine mw_istore (pc' := 30) dX12_ahead_28 rfl (by decide) ?_
      show mW _ _ _ _ _ [some (.inr (some 47)), some (.inl v1), some (.inl (-1)), some (.inl 1000000000), some (.inl 0), none] _ _ _
      exact K
    · replace K := K.2 c3
      refine mw_bipush (pc' := 20) (v := (-2)) dX12_ahead_18 rfl (by decide) ?_
      exact mw_iret dX12_ahead_20 rfl rfl K
  · replace K := K.2 c4
    refine mw_iconst (pc' := 10) (v := (-1)) dX12_ahead_9 rfl (by decide) ?_
    exact mw_iret dX12_ahead_10 rfl rfl K

set_option maxRecDepth 100000 in
set_option maxHeartbeats 4000000 in
theorem qX12_ahead_30 {G : mG} {d : Nat} {b : Nat × Nat} {h : mH} {Q : Option mV → mH → Prop} (v1 : Int32) (v2 : Int32) (v3 : Int32) (v4 : Int32) (hS : mSk h)
    (K : ((6 ≤ v4 → ∀ w1 : Int32, w1 = (if ¬ v1 = 0 then v3 else v2) → Q (some (.inl w1)) h) ∧ (¬ (6 ≤ v4) → mC G kX12_isChoice (d + 8) (0, 0) [.inr (some 47), .inl v4] h (fun r h4 => ∃ x5, r = some (.inl x5) ∧ mSk h4 ∧ ((¬ x5 = 0 → mC G kX12_staysBy (d + 8) (0, 0) [.inr (some 47), .inl v4] h4 (fun r h6 => ∃ x7, r = some (.inl x7) ∧ mSk h6 ∧ ((x7 < v3 → mW G kX12_ahead (d + 9) b 30 [some (.inr (some 47)), some (.inl v1), some (.inl v4), some (.inl x7), some (.inl (v4 + 1)), none] [] h6 Q) ∧ (¬ (x7 < v3) → mW G kX12_ahead (d + 9) b 30 [some (.inr (some 47)), some (.inl v1), some (.inl v2), some (.inl v3), some (.inl (v4 + 1)), none] [] h6 Q)))) ∧ (x5 = 0 → mW G kX12_ahead (d + 9) b 30 [some (.inr (some 47)), some (.inl v1), some (.inl v2), some (.inl v3), some (.inl (v4 + 1)), none] [] h4 Q)))))) : mW G kX12_ahead (d + 9) b 30 [some (.inr (some 47)), some (.inl v1), some (.inl v2), some (.inl v3), some (.inl v4), none] [] h Q := by
  refine mw_iload (pc' := 32) dX12_ahead_30 rfl rfl ?_
  refine mw_bipush (pc' := 34) (v := 6) dX12_ahead_32 rfl (by decide) ?_
  refine mw_icmp_ge (pc' := 37) (tgt := 78) dX12_ahead_34 rfl (by decide) (fun c10 => ?_) (fun c10 => ?_)
  · replace K := K.1 c10
    refine mw_iload_n (pc' := 79) dX12_ahead_78 rfl rfl ?_
    have J2 : ∀ w1 : Int32, w1 = (if ¬ v1 = 0 then v3 else v2) → mW G kX12_ahead (d + 9) b 87 [some (.inr (some 47)), some (.inl v1), some (.inl v2), some (.inl v3), some (.inl v4), none] ([.inl w1]) h Q := by
      intro w1 ew1
      replace K := K w1 ew1
      exact mw_iret dX12_ahead_87 rfl rfl K
    refine mw_if_ne (pc' := 82) (tgt := 86) dX12_ahead_79 rfl (by decide) (fun c3 => ?_) (fun c3 => ?_)
    · refine mw_iload_n (pc' := 87) dX12_ahead_86 rfl rfl ?_
      exact J2 _ (by rw [if_pos c3])
    · refine mw_iload_n (pc' := 83) dX12_ahead_82 rfl rfl ?_
      refine mw_goto (tgt := 87) dX12_ahead_83 (by decide) ?_
      exact J2 _ (by rw [if_neg (fun z => z c3)])
  · replace K := K.2 c10
    refine mw_aload_n (pc' := 38) dX12_ahead_37 rfl rfl ?_
    refine mw_iload (pc' := 40) dX12_ahead_38 rfl rfl ?_
    refine mw_callV (pc' := 43) (b' := (0, 0)) (b1 := b) (av := [.inl v4]) (rest := []) dX12_ahead_40 rfl lkX12_434 rfl rfl (Nat.le_of_ble_eq_true rfl) ⟨Nat.le_of_eq (Nat.zero_add _), Nat.le_of_eq (Nat.zero_add _)⟩ (skT_47 hS) ?_
    refine mC_mono (fun r h4 hr => ?_) K
    obtain ⟨x5, rfl, hS, K⟩ := hr
    show mW _ _ _ _ _ _ [.inl x5] _ _
    refine mw_if_ne (pc' := 46) (tgt := 49) dX12_ahead_43 rfl (by decide) (fun c9 => ?_) (fun c9 => ?_)
    · replace K := K.1 c9
      refine mw_aload_n (pc' := 50) dX12_ahead_49 rfl rfl ?_
      refine mw_iload (pc' := 52) dX12_ahead_50 rfl rfl ?_
      refine mw_callV (pc' := 55) (b' := (0, 0)) (b1 := b) (av := [.inl v4]) (rest := []) dX12_ahead_52 rfl lkX12_450 rfl rfl (Nat.le_of_ble_eq_true rfl) ⟨Nat.le_of_eq (Nat.zero_add _), Nat.le_of_eq (Nat.zero_add _)⟩ (skT_47 hS) ?_
      refine mC_mono (fun r h6 hr => ?_) K
      obtain ⟨x7, rfl, hS, K⟩ := hr
      show mW _ _ _ _ _ _ [.inl x7] _ _
      refine mw_istore (pc' := 57) dX12_ahead_55 rfl (by decide) ?_
      show mW _ _ _ _ _ [some (.inr (some 47)), some (.inl v1), some (.inl v2), some (.inl v3), some (.inl v4), some (.inl x7)] _ _ _
      refine mw_iload (pc' := 59) dX12_ahead_57 rfl rfl ?_
      refine mw_iload_n (pc' := 60) dX12_ahead_59 rfl rfl ?_
      refine mw_icmp_lt (pc' := 63) (tgt := 66) dX12_ahead_60 rfl (by decide) (fun c8 => ?_) (fun c8 => ?_)
      · replace K := K.1 c8
        refine mw_iload (pc' := 68) dX12_ahead_66 rfl rfl ?_
        refine mw_istore_n (pc' := 69) dX12_ahead_68 rfl (by decide) ?_
        show mW _ _ _ _ _ [some (.inr (some 47)), some (.inl v1), some (.inl v2), some (.inl x7), some (.inl v4), some (.inl x7)] _ _ _
        refine mw_iload (pc' := 71) dX12_ahead_69 rfl rfl ?_
        refine mw_istore_n (pc' := 72) dX12_ahead_71 rfl (by decide) ?_
        show mW _ _ _ _ _ [some (.inr (some 47)), some (.inl v1), some (.inl v4), some (.inl x7), some (.inl v4), some (.inl x7)] _ _ _
        refine mw_iinc (pc' := 75) (v := v4 + 1) dX12_ahead_72 rfl (by decide) rfl rfl ?_
        show mW _ _ _ _ _ [some (.inr (some 47)), some (.inl v1), some (.inl v4), some (.inl x7), some (.inl (v4 + 1)), some (.inl x7)] _ _ _
        refine mw_goto (tgt := 30) dX12_ahead_75 (by decide) ?_
        refine mw_weak (ls' := [some (.inr (some 47)), some (.inl v1), some (.inl v4), some (.inl x7), some (.inl (v4 + 1)), none]) ?_ ?_
        · intro i v hv; match i, hv with
          | 0, hv => exact hv
          | 1, hv => exact hv
          | 2, hv => exact hv
          | 3, hv => exact hv
          | 4, hv => exact hv
          | 5, hv => cases hv
          | n + 6, hv => cases hv
        exact K
      · replace K := K.2 c8
        refine mw_goto (tgt := 72) dX12_ahead_63 (by decide) ?_
        refine mw_iinc (pc' := 75) (v := v4 + 1) dX12_ahead_72 rfl (by decide) rfl rfl ?_
        show mW _ _ _ _ _ [some (.inr (some 47)), some (.inl v1), some (.inl v2), some (.inl v3), some (.inl (v4 + 1)), some (.inl x7)] _ _ _
        refine mw_goto (tgt := 30) dX12_ahead_75 (by decide) ?_
        refine mw_weak (ls' := [some (.inr (some 47)), some (.inl v1), some (.inl v2), some (.inl v3), some (.inl (v4 + 1)), none]) ?_ ?_
        · intro i v hv; match i, hv with
          | 0, hv => exact hv
          | 1, hv => exact hv
          | 2, hv => exact hv
          | 3, hv => exact hv
          | 4, hv => exact hv
          | 5, hv => cases hv
          | n + 6, hv => cases hv
        exact K
    · replace K := K.2 c9
      refine mw_goto (tgt := 72) dX12_ahead_46 (by decide) ?_
      refine mw_iinc (pc' := 75) (v := v4 + 1) dX12_ahead_72 rfl (by decide) rfl rfl ?_
      show mW _ _ _ _ _ [some (.inr (some 47)), some (.inl v1), some (.inl v2), some (.inl v3), some (.inl (v4 + 1)), none] _ _ _
      refine mw_goto (tgt := 30) dX12_ahead_75 (by decide) ?_
      exact K

set_option maxRecDepth 100000 in
set_option maxHeartbeats 4000000 in
theorem qX12_laysSure {G : mG} {d : Nat} {b : Nat × Nat} {h : mH} {Q : Option mV → mH → Prop}  (hS : mSk h)
    (K : mC G kX12_laysFitting (d + 7) (0, 0) [.inr (some 47)] h (fun r h1 => r = none ∧ mSk h1 ∧ mW G kX12_laysSure (d + 8) b 6 [some (.inr (some 47)), some (.inl 0)] [] h1 Q)) : mC G kX12_laysSure (d + 8) b [.inr (some 47)] h Q := by
  refine mC_in rfl (Nat.le_of_ble_eq_true rfl) ?_
  show mW _ _ _ _ _ [some (.inr (some 47)), none] _ _ _
  refine mw_aload_n (pc' := 1) dX12_laysSure_0 rfl rfl ?_
  refine mw_callV (pc' := 4) (b' := (0, 0)) (b1 := b) (av := []) (rest := []) dX12_laysSure_1 rfl lkX12_410 rfl rfl (Nat.le_of_ble_eq_true rfl) ⟨Nat.le_of_eq (Nat.zero_add _), Nat.le_of_eq (Nat.zero_add _)⟩ (skT_47 hS) ?_
  refine mC_mono (fun r h1 hr => ?_) K
  obtain ⟨rfl, hS, K⟩ := hr
  show mW _ _ _ _ _ _ [] _ _
  refine mw_iconst (pc' := 5) (v := 0) dX12_laysSure_4 rfl (by decide) ?_
  refine mw_istore_n (pc' := 6) dX12_laysSure_5 rfl (by decide) ?_
  show mW _ _ _ _ _ [some (.inr (some 47)), some (.inl 0)] _ _ _
  exact K

set_option maxRecDepth 100000 in
set_option maxHeartbeats 4000000 in
theorem qX12_laysSure_6 {G : mG} {d : Nat} {b : Nat × Nat} {h : mH} {Q : Option mV → mH → Prop} (v1 : Int32) (hS : mSk h)
    (K : ((1024 ≤ v1 → ∀ w1 : Int32, w1 = (if (mI h 47 51) ≤ 0 then 0 else 1) → Q (some (.inl w1)) h) ∧ (¬ (1024 ≤ v1) → (((mI h 47 51) ≤ 0 → vp_in v1 1024 ∧ ∀ h5, h5 = mSI h 88 v1.toNatClampNeg 0 → mW G kX12_laysSure (d + 8) b 6 [some (.inr (some 47)), some (.inl (v1 + 1))] [] h5 Q) ∧ (¬ ((mI h 47 51) ≤ 0) → mC G kX12_isSurelyWater (d + 7) (0, 0) [.inr (some 47), .inl v1] h (fun r h6 => ∃ x7, r = some (.inl x7) ∧ mSk h6 ∧ ∀ w8 : Int32, w8 = (if x7 = 0 then 0 else 1) → vp_in v1 1024 ∧ ∀ h10, h10 = mSI h6 88 v1.toNatClampNeg w8 → mW G kX12_laysSure (d + 8) b 6 [some (.inr (some 47)), some (.inl (v1 + 1))] [] h10 Q)))))) : mW G kX12_laysSure (d + 8) b 6 [some (.inr (some 47)), some (.inl v1)] [] h Q := by
  refine mw_iload_n (pc' := 7) dX12_laysSure_6 rfl rfl ?_
  refine mw_sipush (pc' := 10) (v := 1024) dX12_laysSure_7 rfl (by decide) ?_
  refine mw_icmp_ge (pc' := 13) (tgt := 45) dX12_laysSure_10 rfl (by decide) (fun c14 => ?_) (fun c14 => ?_)
  · replace K := K.1 c14
    refine mw_aload_n (pc' := 46) dX12_laysSure_45 rfl rfl ?_
    refine mw_getI (pc' := 49) dX12_laysSure_46 rfl flX12_403 rfl (skT_47 hS) ?_
    have J2 : ∀ w1 : Int32, w1 = (if (mI h 47 51) ≤ 0 then 0 else 1) → mW G kX12_laysSure (d + 8) b 57 [some (.inr (some 47)), some (.inl v1)] ([.inl w1]) h Q := by
      intro w1 ew1
      replace K := K w1 ew1
      exact mw_iret dX12_laysSure_57 rfl (m_boolN (by rw [ew1]; exact (m_boolI m_bool0 m_bool1))) K
    refine mw_if_le (pc' := 52) (tgt := 56) dX12_laysSure_49 rfl (by decide) (fun c3 => ?_) (fun c3 => ?_)
    · refine mw_iconst (pc' := 57) (v := 0) dX12_laysSure_56 rfl (by decide) ?_
      exact J2 _ (by rw [if_pos c3])
    · refine mw_iconst (pc' := 53) (v := 1) dX12_laysSure_52 rfl (by decide) ?_
      refine mw_goto (tgt := 57) dX12_laysSure_53 (by decide) ?_
      exact J2 _ (by rw [if_neg c3])
  · replace K := K.2 c14
    refine mw_aload_n (pc' := 14) dX12_laysSure_13 rfl rfl ?_
    refine mw_getR (pc' := 17) dX12_laysSure_14 rfl flX12_132 rfl (skT_47 hS) ?_
    rw [skR_47_61 hS]
    refine mw_iload_n (pc' := 18) dX12_laysSure_17 rfl rfl ?_
    refine mw_aload_n (pc' := 19) dX12_laysSure_18 rfl rfl ?_
    refine mw_getI (pc' := 22) dX12_laysSure_19 rfl flX12_403 rfl (skT_47 hS) ?_
    refine mw_if_le (pc' := 25) (tgt := 37) dX12_laysSure_22 rfl (by decide) (fun c13 => ?_) (fun c13 => ?_)
    · replace K := K.1 c13
      refine mw_iconst (pc' := 38) (v := 0) dX12_laysSure_37 rfl (by decide) ?_
      obtain ⟨o4, K⟩ := K
      refine mw_bastK (pc' := 39) dX12_laysSure_38 rfl (skT_88 hS) (skL_88 hS) o4 (by decide) hS (fun h5 eh5 hS => ?_)
      replace K := K h5 eh5
      refine mw_iinc (pc' := 42) (v := v1 + 1) dX12_laysSure_39 rfl (by decide) rfl rfl ?_
      show mW _ _ _ _ _ [some (.inr (some 47)), some (.inl (v1 + 1))] _ _ _
      refine mw_goto (tgt := 6) dX12_laysSure_42 (by decide) ?_
      exact K
    · replace K := K.2 c13
      refine mw_aload_n (pc' := 26) dX12_laysSure_25 rfl rfl ?_
      refine mw_iload_n (pc' := 27) dX12_laysSure_26 rfl rfl ?_
      refine mw_callV (pc' := 30) (b' := (0, 0)) (b1 := b) (av := [.inl v1]) (rest := [.inl v1, .inr (some 88)]) dX12_laysSure_27 rfl lkX12_453 rfl rfl (Nat.le_of_ble_eq_true rfl) ⟨Nat.le_of_eq (Nat.zero_add _), Nat.le_of_eq (Nat.zero_add _)⟩ (skT_47 hS) ?_
      refine mC_mono (fun r h6 hr => ?_) K
      obtain ⟨x7, rfl, hS, K⟩ := hr
      show mW _ _ _ _ _ _ [.inl x7, .inl v1, .inr (some 88)] _ _
      have J11 : ∀ w8 : Int32, w8 = (if x7 = 0 then 0 else 1) → mW G kX12_laysSure (d + 8) b 38 [some (.inr (some 47)), some (.inl v1)] ([.inl w8, .inl v1, .inr (some 88)]) h6 Q := by
        intro w8 ew8
        replace K := K w8 ew8
        obtain ⟨o9, K⟩ := K
        refine mw_bastK (pc' := 39) dX12_laysSure_38 rfl (skT_88 hS) (skL_88 hS) o9 (m_boolN (by rw [ew8]; exact (m_boolI m_bool0 m_bool1))) hS (fun h10 eh10 hS => ?_)
        replace K := K h10 eh10
        refine mw_iinc (pc' := 42) (v := v1 + 1) dX12_laysSure_39 rfl (by decide) rfl rfl ?_
        show mW _ _ _ _ _ [some (.inr (some 47)), some (.inl (v1 + 1))] _ _ _
        refine mw_goto (tgt := 6) dX12_laysSure_42 (by decide) ?_
        exact K
      refine mw_if_eq (pc' := 33) (tgt := 37) dX12_laysSure_30 rfl (by decide) (fun c12 => ?_) (fun c12 => ?_)
      · refine mw_iconst (pc' := 38) (v := 0) dX12_laysSure_37 rfl (by decide) ?_
        exact J11 _ (by rw [if_pos c12])
      · refine mw_iconst (pc' := 34) (v := 1) dX12_laysSure_33 rfl (by decide) ?_
        refine mw_goto (tgt := 38) dX12_laysSure_34 (by decide) ?_
        exact J11 _ (by rw [if_neg c12])

set_option maxRecDepth 100000 in
set_option maxHeartbeats 4000000 in
theorem qX12_stepBy {G : mG} {d : Nat} {b : Nat × Nat} {h : mH} {Q : Option mV → mH → Prop} (v1 : Int32) (v2 : Int32) (v3 : Int32) (hS : mSk h)
    (K : (((f_X12_isCell ((m_rem v1 32) + (f_X12_stepX v3)) ((v1 / 32) + (f_X12_stepY v3))) = 0 → Q (some (.inl 1000000000)) h) ∧ (¬ (f_X12_isCell ((m_rem v1 32) + (f_X12_stepX v3)) ((v1 / 32) + (f_X12_stepY v3))) = 0 → vp_in ((32 * ((v1 / 32) + (f_X12_stepY v3))) + ((m_rem v1 32) + (f_X12_stepX v3))) 1024 ∧ ((¬ (mI h 88 ((32 * ((v1 / 32) + (f_X12_stepY v3))) + ((m_rem v1 32) + (f_X12_stepX v3))).toNatClampNeg) = 0 → vp_in ((4 * ((32 * ((v1 / 32) + (f_X12_stepY v3))) + ((m_rem v1 32) + (f_X12_stepX v3)))) + v3) 4096 ∧ ∀ w3 : Int32, w3 = (if ¬ v2 = v3 then 10001 else 1) → Q (some (.inl (f_X12_sum (mI h 89 ((4 * ((32 * ((v1 / 32) + (f_X12_stepY v3))) + ((m_rem v1 32) + (f_X12_stepX v3)))) + v3).toNatClampNeg) w3))) h) ∧ ((mI h 88 ((32 * ((v1 / 32) + (f_X12_stepY v3))) + ((m_rem v1 32) + (f_X12_stepX v3))).toNatClampNeg) = 0 → Q (some (.inl 1000000000)) h))))) : mC G kX12_stepBy (d + 1) b [.inr (some 47), .inl v1, .inl v2, .inl v3] h Q := by
  refine mC_in rfl (Nat.le_of_ble_eq_true rfl) ?_
  show mW _ _ _ _ _ [some (.inr (some 47)), some (.inl v1), some (.inl v2), some (.inl v3), none, none] _ _ _
  refine mw_iload_n (pc' := 1) dX12_stepBy_0 rfl rfl ?_
  refine mw_bipush (pc' := 3) (v := 32) dX12_stepBy_1 rfl (by decide) ?_
  refine mw_iremM (pc' := 4) dX12_stepBy_3 rfl (by decide) ?_
  refine mw_iload_n (pc' := 5) dX12_stepBy_4 rfl rfl ?_
  refine mw_callS (pc' := 8) (b' := (0, 0)) (b1 := b) (av := [.inl v3]) (rest := [.inl (m_rem v1 32)]) dX12_stepBy_5 rfl lkX12_196 rfl rfl (Nat.le_of_ble_eq_true rfl) ⟨Nat.le_of_eq (Nat.zero_add _), Nat.le_of_eq (Nat.zero_add _)⟩ ?_
  refine pX12_stepX ?_
  refine mw_iadd (pc' := 9) dX12_stepBy_8 rfl ?_
  refine mw_istore (pc' := 11) dX12_stepBy_9 rfl (by decide) ?_
  show mW _ _ _ _ _ [some (.inr (some 47)), some (.inl v1), some (.inl v2), some (.inl v3), some (.inl ((m_rem v1 32) + (f_X12_stepX v3))), none] _ _ _
  refine mw_iload_n (pc' := 12) dX12_stepBy_11 rfl rfl ?_
  refine mw_bipush (pc' := 14) (v := 32) dX12_stepBy_12 rfl (by decide) ?_
  refine mw_idiv (pc' := 15) dX12_stepBy_14 rfl (by decide) ?_
  refine mw_iload_n (pc' := 16) dX12_stepBy_15 rfl rfl ?_
  refine mw_callS (pc' := 19) (b' := (0, 0)) (b1 := b) (av := [.inl v3]) (rest := [.inl (v1 / 32)]) dX12_stepBy_16 rfl lkX12_199 rfl rfl (Nat.le_of_ble_eq_true rfl) ⟨Nat.le_of_eq (Nat.zero_add _), Nat.le_of_eq (Nat.zero_add _)⟩ ?_
  refine pX12_stepY ?_
  refine mw_iadd (pc' := 20) dX12_stepBy_19 rfl ?_
  refine mw_istore (pc' := 22) dX12_stepBy_20 rfl (by decide) ?_
  show mW _ _ _ _ _ [some (.inr (some 47)), some (.inl v1), some (.inl v2), some (.inl v3), some (.inl ((m_rem v1 32) + (f_X12_stepX v3))), some (.inl ((v1 / 32) + (f_X12_stepY v3)))] _ _ _
  refine mw_iload (pc' := 24) dX12_stepBy_22 rfl rfl ?_
  refine mw_iload (pc' := 26) dX12_stepBy_24 rfl rfl ?_
  refine mw_callS (pc' := 29) (b' := (0, 0)) (b1 := b) (av := [.inl ((m_rem v1 32) + (f_X12_stepX v3)), .inl ((v1 / 32) + (f_X12_stepY v3))]) (rest := []) dX12_stepBy_26 rfl lkX12_190 rfl rfl (Nat.le_of_ble_eq_true rfl) ⟨Nat.le_of_eq (Nat.zero_add _), Nat.le_of_eq (Nat.zero_add _)⟩ ?_
  refine pX12_isCell ?_
  refine mw_if_eq (pc' := 32) (tgt := 48) dX12_stepBy_29 rfl (by decide) (fun c7 => ?_) (fun c7 => ?_)
  · replace K := K.1 c7
    refine mw_ldcw (pc' := 51) dX12_stepBy_48 rfl cnX12_359 ?_
    exact mw_iret dX12_stepBy_51 rfl rfl K
  · replace K := K.2 c7
    refine mw_aload_n (pc' := 33) dX12_stepBy_32 rfl rfl ?_
    refine mw_getR (pc' := 36) dX12_stepBy_33 rfl flX12_132 rfl (skT_47 hS) ?_
    rw [skR_47_61 hS]
    refine mw_bipush (pc' := 38) (v := 32) dX12_stepBy_36 rfl (by decide) ?_
    refine mw_iload (pc' := 40) dX12_stepBy_38 rfl rfl ?_
    refine mw_imul (pc' := 41) dX12_stepBy_40 rfl ?_
    refine mw_iload (pc' := 43) dX12_stepBy_41 rfl rfl ?_
    refine mw_iadd (pc' := 44) dX12_stepBy_43 rfl ?_
    obtain ⟨o1, K⟩ := K
    refine mw_baldL (pc' := 45) dX12_stepBy_44 rfl (skT_88 hS) (skL_88 hS) o1 ?_
    refine mw_if_ne (pc' := 48) (tgt := 52) dX12_stepBy_45 rfl (by decide) (fun c6 => ?_) (fun c6 => ?_)
    · replace K := K.1 c6
      refine mw_aload_n (pc' := 53) dX12_stepBy_52 rfl rfl ?_
      refine mw_getR (pc' := 56) dX12_stepBy_53 rfl flX12_135 rfl (skT_47 hS) ?_
      rw [skR_47_62 hS]
      refine mw_iconst (pc' := 57) (v := 4) dX12_stepBy_56 rfl (by decide) ?_
      refine mw_bipush (pc' := 59) (v := 32) dX12_stepBy_57 rfl (by decide) ?_
      refine mw_iload (pc' := 61) dX12_stepBy_59 rfl rfl ?_
      refine mw_imul (pc' := 62) dX12_stepBy_61 rfl ?_
      refine mw_iload (pc' := 64) dX12_stepBy_62 rfl rfl ?_
      refine mw_iadd (pc' := 65) dX12_stepBy_64 rfl ?_
      refine mw_imul (pc' := 66) dX12_stepBy_65 rfl ?_
      refine mw_iload_n (pc' := 67) dX12_stepBy_66 rfl rfl ?_
      refine mw_iadd (pc' := 68) dX12_stepBy_67 rfl ?_
      obtain ⟨o2, K⟩ := K
      refine mw_ialdL (pc' := 69) dX12_stepBy_68 rfl (skT_89 hS) (skL_89 hS) o2 ?_
      refine mw_iload_n (pc' := 70) dX12_stepBy_69 rfl rfl ?_
      refine mw_iload_n (pc' := 71) dX12_stepBy_70 rfl rfl ?_
      have J4 : ∀ w3 : Int32, w3 = (if ¬ v2 = v3 then 10001 else 1) → mW G kX12_stepBy (d + 1) b 81 [some (.inr (some 47)), some (.inl v1), some (.inl v2), some (.inl v3), some (.inl ((m_rem v1 32) + (f_X12_stepX v3))), some (.inl ((v1 / 32) + (f_X12_stepY v3)))] ([.inl w3, .inl (mI h 89 ((4 * ((32 * ((v1 / 32) + (f_X12_stepY v3))) + ((m_rem v1 32) + (f_X12_stepX v3)))) + v3).toNatClampNeg)]) h Q := by
        intro w3 ew3
        replace K := K w3 ew3
        refine mw_callS (pc' := 84) (b' := (0, 0)) (b1 := b) (av := [.inl (mI h 89 ((4 * ((32 * ((v1 / 32) + (f_X12_stepY v3))) + ((m_rem v1 32) + (f_X12_stepX v3)))) + v3).toNatClampNeg), .inl w3]) (rest := []) dX12_stepBy_81 rfl lkX12_373 rfl rfl (Nat.le_of_ble_eq_true rfl) ⟨Nat.le_of_eq (Nat.zero_add _), Nat.le_of_eq (Nat.zero_add _)⟩ ?_
        refine pX12_sum ?_
        exact mw_iret dX12_stepBy_84 rfl rfl K
      refine mw_icmp_ne (pc' := 74) (tgt := 78) dX12_stepBy_71 rfl (by decide) (fun c5 => ?_) (fun c5 => ?_)
      · refine mw_sipush (pc' := 81) (v := 10001) dX12_stepBy_78 rfl (by decide) ?_
        exact J4 _ (by rw [if_pos c5])
      · refine mw_iconst (pc' := 75) (v := 1) dX12_stepBy_74 rfl (by decide) ?_
        refine mw_goto (tgt := 81) dX12_stepBy_75 (by decide) ?_
        exact J4 _ (by rw [if_neg (fun z => z c5)])
    · replace K := K.2 c6
      refine mw_ldcw (pc' := 51) dX12_stepBy_48 rfl cnX12_359 ?_
      exact mw_iret dX12_stepBy_51 rfl rfl K

set_option maxRecDepth 100000 in
set_option maxHeartbeats 4000000 in
theorem qX12_bestBy {G : mG} {d : Nat} {b : Nat × Nat} {h : mH} {Q : Option mV → mH → Prop} (v1 : Int32) (v2 : Int32) (hS : mSk h)
    (K : mW G kX12_bestBy (d + 2) b 7 [some (.inr (some 47)), some (.inl v1), some (.inl v2), some (.inl 1000000000), some (.inl 0)] [] h Q) : mC G kX12_bestBy (d + 2) b [.inr (some 47), .inl v1, .inl v2] h Q := by
  refine mC_in rfl (Nat.le_of_ble_eq_true rfl) ?_
  show mW _ _ _ _ _ [some (.inr (some 47)), some (.inl v1), some (.inl v2), none, none] _ _ _
  refine mw_ldcw (pc' := 3) dX12_bestBy_0 rfl cnX12_359 ?_
  refine mw_istore_n (pc' := 4) dX12_bestBy_3 rfl (by decide) ?_
  show mW _ _ _ _ _ [some (.inr (some 47)), some (.inl v1), some (.inl v2), some (.inl 1000000000), none] _ _ _
  refine mw_iconst (pc' := 5) (v := 0) dX12_bestBy_4 rfl (by decide) ?_
  refine mw_istore (pc' := 7) dX12_bestBy_5 rfl (by decide) ?_
  show mW _ _ _ _ _ [some (.inr (some 47)), some (.inl v1), some (.inl v2), some (.inl 1000000000), some (.inl 0)] _ _ _
  exact K

set_option maxRecDepth 100000 in
set_option maxHeartbeats 4000000 in
theorem qX12_bestBy_7 {G : mG} {d : Nat} {b : Nat × Nat} {h : mH} {Q : Option mV → mH → Prop} (v1 : Int32) (v2 : Int32) (v3 : Int32) (v4 : Int32) (hS : mSk h)
    (K : ((4 ≤ v4 → Q (some (.inl v3)) h) ∧ (¬ (4 ≤ v4) → mC G kX12_stepBy (d + 1) (0, 0) [.inr (some 47), .inl v1, .inl v2, .inl v4] h (fun r h1 => ∃ x2, r = some (.inl x2) ∧ mSk h1 ∧ mW G kX12_bestBy (d + 2) b 7 [some (.inr (some 47)), some (.inl v1), some (.inl v2), some (.inl (f_X12_least v3 x2)), some (.inl (v4 + 1))] [] h1 Q)))) : mW G kX12_bestBy (d + 2) b 7 [some (.inr (some 47)), some (.inl v1), some (.inl v2), some (.inl v3), some (.inl v4)] [] h Q := by
  refine mw_iload (pc' := 9) dX12_bestBy_7 rfl rfl ?_
  refine mw_iconst (pc' := 10) (v := 4) dX12_bestBy_9 rfl (by decide) ?_
  refine mw_icmp_ge (pc' := 13) (tgt := 32) dX12_bestBy_10 rfl (by decide) (fun c3 => ?_) (fun c3 => ?_)
  · replace K := K.1 c3
    refine mw_iload_n (pc' := 33) dX12_bestBy_32 rfl rfl ?_
    exact mw_iret dX12_bestBy_33 rfl rfl K
  · replace K := K.2 c3
    refine mw_iload_n (pc' := 14) dX12_bestBy_13 rfl rfl ?_
    refine mw_aload_n (pc' := 15) dX12_bestBy_14 rfl rfl ?_
    refine mw_iload_n (pc' := 16) dX12_bestBy_15 rfl rfl ?_
    refine mw_iload_n (pc' := 17) dX12_bestBy_16 rfl rfl ?_
    refine mw_iload (pc' := 19) dX12_bestBy_17 rfl rfl ?_
    refine mw_callV (pc' := 22) (b' := (0, 0)) (b1 := b) (av := [.inl v1, .inl v2, .inl v4]) (rest := [.inl v3]) dX12_bestBy_19 rfl lkX12_456 rfl rfl (Nat.le_of_ble_eq_true rfl) ⟨Nat.le_of_eq (Nat.zero_add _), Nat.le_of_eq (Nat.zero_add _)⟩ (skT_47 hS) ?_
    refine mC_mono (fun r h1 hr => ?_) K
    obtain ⟨x2, rfl, hS, K⟩ := hr
    show mW _ _ _ _ _ _ [.inl x2, .inl v3] _ _
    refine mw_callS (pc' := 25) (b' := (0, 0)) (b1 := b) (av := [.inl v3, .inl x2]) (rest := []) dX12_bestBy_22 rfl lkX12_363 rfl rfl (Nat.le_of_ble_eq_true rfl) ⟨Nat.le_of_eq (Nat.zero_add _), Nat.le_of_eq (Nat.zero_add _)⟩ ?_
    refine pX12_least ?_
    refine mw_istore_n (pc' := 26) dX12_bestBy_25 rfl (by decide) ?_
    show mW _ _ _ _ _ [some (.inr (some 47)), some (.inl v1), some (.inl v2), some (.inl (f_X12_least v3 x2)), some (.inl v4)] _ _ _
    refine mw_iinc (pc' := 29) (v := v4 + 1) dX12_bestBy_26 rfl (by decide) rfl rfl ?_
    show mW _ _ _ _ _ [some (.inr (some 47)), some (.inl v1), some (.inl v2), some (.inl (f_X12_least v3 x2)), some (.inl (v4 + 1))] _ _ _
    refine mw_goto (tgt := 7) dX12_bestBy_29 (by decide) ?_
    exact K

set_option maxRecDepth 100000 in
set_option maxHeartbeats 4000000 in
theorem qX12_laysWays {G : mG} {d : Nat} {b : Nat × Nat} {h : mH} {Q : Option mV → mH → Prop} (v1 : Int32) (hS : mSk h)
    (K : mW G kX12_laysWays (d + 3) b 2 [some (.inr (some 47)), some (.inl v1), some (.inl 0), none, none] [] h Q) : mC G kX12_laysWays (d + 3) b [.inr (some 47), .inl v1] h Q := by
  refine mC_in rfl (Nat.le_of_ble_eq_true rfl) ?_
  show mW _ _ _ _ _ [some (.inr (some 47)), some (.inl v1), none, none, none] _ _ _
  refine mw_iconst (pc' := 1) (v := 0) dX12_laysWays_0 rfl (by decide) ?_
  refine mw_istore_n (pc' := 2) dX12_laysWays_1 rfl (by decide) ?_
  show mW _ _ _ _ _ [some (.inr (some 47)), some (.inl v1), some (.inl 0), none, none] _ _ _
  exact K

set_option maxRecDepth 100000 in
set_option maxHeartbeats 4000000 in
theorem qX12_laysWays_2 {G : mG} {d : Nat} {b : Nat × Nat} {h : mH} {Q : Option mV → mH → Prop} (v1 : Int32) (v2 : Int32) (hS : mSk h)
    (K : ((4096 ≤ v2 → mW G kX12_laysWays (d + 3) b 37 [some (.inr (some 47)), some (.inl v1), some (.inl 1), none, none] [] h Q) ∧ (¬ (4096 ≤ v2) → ((¬ (v2 / 4) = v1 → vp_in v2 4096 ∧ ∀ h2, h2 = mSI h 89 v2.toNatClampNeg 1000000000 → mW G kX12_laysWays (d + 3) b 2 [some (.inr (some 47)), some (.inl v1), some (.inl (v2 + 1)), none, none] [] h2 Q) ∧ ((v2 / 4) = v1 → vp_in v2 4096 ∧ ∀ h4, h4 = mSI h 89 v2.toNatClampNeg 0 → mW G kX12_laysWays (d + 3) b 2 [some (.inr (some 47)), some (.inl v1), some (.inl (v2 + 1)), none, none] [] h4 Q))))) : mW G kX12_laysWays (d + 3) b 2 [some (.inr (some 47)), some (.inl v1), some (.inl v2), none, none] [] h Q := by
  refine mw_iload_n (pc' := 3) dX12_laysWays_2 rfl rfl ?_
  refine mw_sipush (pc' := 6) (v := 4096) dX12_laysWays_3 rfl (by decide) ?_
  refine mw_icmp_ge (pc' := 9) (tgt := 35) dX12_laysWays_6 rfl (by decide) (fun c6 => ?_) (fun c6 => ?_)
  · replace K := K.1 c6
    refine mw_iconst (pc' := 36) (v := 1) dX12_laysWays_35 rfl (by decide) ?_
    refine mw_istore_n (pc' := 37) dX12_laysWays_36 rfl (by decide) ?_
    show mW _ _ _ _ _ [some (.inr (some 47)), some (.inl v1), some (.inl 1), none, none] _ _ _
    exact K
  · replace K := K.2 c6
    refine mw_aload_n (pc' := 10) dX12_laysWays_9 rfl rfl ?_
    refine mw_getR (pc' := 13) dX12_laysWays_10 rfl flX12_135 rfl (skT_47 hS) ?_
    rw [skR_47_62 hS]
    refine mw_iload_n (pc' := 14) dX12_laysWays_13 rfl rfl ?_
    refine mw_iload_n (pc' := 15) dX12_laysWays_14 rfl rfl ?_
    refine mw_iconst (pc' := 16) (v := 4) dX12_laysWays_15 rfl (by decide) ?_
    refine mw_idiv (pc' := 17) dX12_laysWays_16 rfl (by decide) ?_
    refine mw_iload_n (pc' := 18) dX12_laysWays_17 rfl rfl ?_
    refine mw_icmp_ne (pc' := 21) (tgt := 25) dX12_laysWays_18 rfl (by decide) (fun c5 => ?_) (fun c5 => ?_)
    · replace K := K.1 c5
      refine mw_ldcw (pc' := 28) dX12_laysWays_25 rfl cnX12_359 ?_
      obtain ⟨o1, K⟩ := K
      refine mw_iastK (pc' := 29) dX12_laysWays_28 rfl (skT_89 hS) (skL_89 hS) o1 hS (fun h2 eh2 hS => ?_)
      replace K := K h2 eh2
      refine mw_iinc (pc' := 32) (v := v2 + 1) dX12_laysWays_29 rfl (by decide) rfl rfl ?_
      show mW _ _ _ _ _ [some (.inr (some 47)), some (.inl v1), some (.inl (v2 + 1)), none, none] _ _ _
      refine mw_goto (tgt := 2) dX12_laysWays_32 (by decide) ?_
      exact K
    · replace K := K.2 c5
      refine mw_iconst (pc' := 22) (v := 0) dX12_laysWays_21 rfl (by decide) ?_
      refine mw_goto (tgt := 28) dX12_laysWays_22 (by decide) ?_
      obtain ⟨o3, K⟩ := K
      refine mw_iastK (pc' := 29) dX12_laysWays_28 rfl (skT_89 hS) (skL_89 hS) o3 hS (fun h4 eh4 hS => ?_)
      replace K := K h4 eh4
      refine mw_iinc (pc' := 32) (v := v2 + 1) dX12_laysWays_29 rfl (by decide) rfl rfl ?_
      show mW _ _ _ _ _ [some (.inr (some 47)), some (.inl v1), some (.inl (v2 + 1)), none, none] _ _ _
      refine mw_goto (tgt := 2) dX12_laysWays_32 (by decide) ?_
      exact K

set_option maxRecDepth 100000 in
set_option maxHeartbeats 4000000 in
theorem qX12_laysWays_37 {G : mG} {d : Nat} {b : Nat × Nat} {h : mH} {Q : Option mV → mH → Prop} (v1 : Int32) (v2 : Int32) (hS : mSk h)
    (K : ((v2 = 0 → Q none h) ∧ (¬ v2 = 0 → mW G kX12_laysWays (d + 3) b 45 [some (.inr (some 47)), some (.inl v1), some (.inl 0), some (.inl 0), none] [] h Q))) : mW G kX12_laysWays (d + 3) b 37 [some (.inr (some 47)), some (.inl v1), some (.inl v2), none, none] [] h Q := by
  refine mw_iload_n (pc' := 38) dX12_laysWays_37 rfl rfl ?_
  refine mw_if_eq (pc' := 41) (tgt := 118) dX12_laysWays_38 rfl (by decide) (fun c1 => ?_) (fun c1 => ?_)
  · replace K := K.1 c1
    exact mw_ret dX12_laysWays_118 rfl K
  · replace K := K.2 c1
    refine mw_iconst (pc' := 42) (v := 0) dX12_laysWays_41 rfl (by decide) ?_
    refine mw_istore_n (pc' := 43) dX12_laysWays_42 rfl (by decide) ?_
    show mW _ _ _ _ _ [some (.inr (some 47)), some (.inl v1), some (.inl 0), none, none] _ _ _
    refine mw_iconst (pc' := 44) (v := 0) dX12_laysWays_43 rfl (by decide) ?_
    refine mw_istore_n (pc' := 45) dX12_laysWays_44 rfl (by decide) ?_
    show mW _ _ _ _ _ [some (.inr (some 47)), some (.inl v1), some (.inl 0), some (.inl 0), none] _ _ _
    exact K

set_option maxRecDepth 100000 in
set_option maxHeartbeats 4000000 in
theorem qX12_laysWays_45 {G : mG} {d : Nat} {b : Nat × Nat} {h : mH} {Q : Option mV → mH → Prop} (v1 : Int32) (v2 : Int32) (v3 : Int32) (hS : mSk h)
    (K : ((4096 ≤ v3 → mW G kX12_laysWays (d + 3) b 37 [some (.inr (some 47)), some (.inl v1), some (.inl v2), none, none] [] h Q) ∧ (¬ (4096 ≤ v3) → (((v3 / 4) = v1 → mW G kX12_laysWays (d + 3) b 45 [some (.inr (some 47)), some (.inl v1), some (.inl v2), some (.inl (v3 + 1)), none] [] h Q) ∧ (¬ (v3 / 4) = v1 → vp_in (v3 / 4) 1024 ∧ ((¬ (mI h 88 (v3 / 4).toNatClampNeg) = 0 → mC G kX12_bestBy (d + 2) (0, 0) [.inr (some 47), .inl (v3 / 4), .inl (m_rem v3 4)] h (fun r h2 => ∃ x3, r = some (.inl x3) ∧ mSk h2 ∧ vp_in v3 4096 ∧ ((x3 < (mI h2 89 v3.toNatClampNeg) → vp_in v3 4096 ∧ ∀ h6, h6 = mSI h2 89 v3.toNatClampNeg x3 → mW G kX12_laysWays (d + 3) b 45 [some (.inr (some 47)), some (.inl v1), some (.inl 1), some (.inl (v3 + 1)), none] [] h6 Q) ∧ (¬ (x3 < (mI h2 89 v3.toNatClampNeg)) → mW G kX12_laysWays (d + 3) b 45 [some (.inr (some 47)), some (.inl v1), some (.inl v2), some (.inl (v3 + 1)), none] [] h2 Q)))) ∧ ((mI h 88 (v3 / 4).toNatClampNeg) = 0 → mW G kX12_laysWays (d + 3) b 45 [some (.inr (some 47)), some (.inl v1), some (.inl v2), some (.inl (v3 + 1)), none] [] h Q))))))) : mW G kX12_laysWays (d + 3) b 45 [some (.inr (some 47)), some (.inl v1), some (.inl v2), some (.inl v3), none] [] h Q := by
  refine mw_iload_n (pc' := 46) dX12_laysWays_45 rfl rfl ?_
  refine mw_sipush (pc' := 49) (v := 4096) dX12_laysWays_46 rfl (by decide) ?_
  refine mw_icmp_ge (pc' := 52) (tgt := 115) dX12_laysWays_49 rfl (by decide) (fun c10 => ?_) (fun c10 => ?_)
  · replace K := K.1 c10
    refine mw_goto (tgt := 37) dX12_laysWays_115 (by decide) ?_
    refine mw_weak (ls' := [some (.inr (some 47)), some (.inl v1), some (.inl v2), none, none]) ?_ ?_
    · intro i v hv; match i, hv with
      | 0, hv => exact hv
      | 1, hv => exact hv
      | 2, hv => exact hv
      | 3, hv => cases hv
      | 4, hv => cases hv
      | n + 5, hv => cases hv
    exact K
  · replace K := K.2 c10
    refine mw_iload_n (pc' := 53) dX12_laysWays_52 rfl rfl ?_
    refine mw_iconst (pc' := 54) (v := 4) dX12_laysWays_53 rfl (by decide) ?_
    refine mw_idiv (pc' := 55) dX12_laysWays_54 rfl (by decide) ?_
    refine mw_iload_n (pc' := 56) dX12_laysWays_55 rfl rfl ?_
    refine mw_icmp_eq (pc' := 59) (tgt := 109) dX12_laysWays_56 rfl (by decide) (fun c9 => ?_) (fun c9 => ?_)
    · replace K := K.1 c9
      refine mw_iinc (pc' := 112) (v := v3 + 1) dX12_laysWays_109 rfl (by decide) rfl rfl ?_
      show mW _ _ _ _ _ [some (.inr (some 47)), some (.inl v1), some (.inl v2), some (.inl (v3 + 1)), none] _ _ _
      refine mw_goto (tgt := 45) dX12_laysWays_112 (by decide) ?_
      exact K
    · replace K := K.2 c9
      refine mw_aload_n (pc' := 60) dX12_laysWays_59 rfl rfl ?_
      refine mw_getR (pc' := 63) dX12_laysWays_60 rfl flX12_132 rfl (skT_47 hS) ?_
      rw [skR_47_61 hS]
      refine mw_iload_n (pc' := 64) dX12_laysWays_63 rfl rfl ?_
      refine mw_iconst (pc' := 65) (v := 4) dX12_laysWays_64 rfl (by decide) ?_
      refine mw_idiv (pc' := 66) dX12_laysWays_65 rfl (by decide) ?_
      obtain ⟨o1, K⟩ := K
      refine mw_baldL (pc' := 67) dX12_laysWays_66 rfl (skT_88 hS) (skL_88 hS) o1 ?_
      refine mw_if_ne (pc' := 70) (tgt := 73) dX12_laysWays_67 rfl (by decide) (fun c8 => ?_) (fun c8 => ?_)
      · replace K := K.1 c8
        refine mw_aload_n (pc' := 74) dX12_laysWays_73 rfl rfl ?_
        refine mw_iload_n (pc' := 75) dX12_laysWays_74 rfl rfl ?_
        refine mw_iconst (pc' := 76) (v := 4) dX12_laysWays_75 rfl (by decide) ?_
        refine mw_idiv (pc' := 77) dX12_laysWays_76 rfl (by decide) ?_
        refine mw_iload_n (pc' := 78) dX12_laysWays_77 rfl rfl ?_
        refine mw_iconst (pc' := 79) (v := 4) dX12_laysWays_78 rfl (by decide) ?_
        refine mw_iremM (pc' := 80) dX12_laysWays_79 rfl (by decide) ?_
        refine mw_callV (pc' := 83) (b' := (0, 0)) (b1 := b) (av := [.inl (v3 / 4), .inl (m_rem v3 4)]) (rest := []) dX12_laysWays_80 rfl lkX12_459 rfl rfl (Nat.le_of_ble_eq_true rfl) ⟨Nat.le_of_eq (Nat.zero_add _), Nat.le_of_eq (Nat.zero_add _)⟩ (skT_47 hS) ?_
        refine mC_mono (fun r h2 hr => ?_) K
        obtain ⟨x3, rfl, hS, K⟩ := hr
        show mW _ _ _ _ _ _ [.inl x3] _ _
        refine mw_istore (pc' := 85) dX12_laysWays_83 rfl (by decide) ?_
        show mW _ _ _ _ _ [some (.inr (some 47)), some (.inl v1), some (.inl v2), some (.inl v3), some (.inl x3)] _ _ _
        refine mw_iload (pc' := 87) dX12_laysWays_85 rfl rfl ?_
        refine mw_aload_n (pc' := 88) dX12_laysWays_87 rfl rfl ?_
        refine mw_getR (pc' := 91) dX12_laysWays_88 rfl flX12_135 rfl (skT_47 hS) ?_
        rw [skR_47_62 hS]
        refine mw_iload_n (pc' := 92) dX12_laysWays_91 rfl rfl ?_
        obtain ⟨o4, K⟩ := K
        refine mw_ialdL (pc' := 93) dX12_laysWays_92 rfl (skT_89 hS) (skL_89 hS) o4 ?_
        refine mw_icmp_lt (pc' := 96) (tgt := 99) dX12_laysWays_93 rfl (by decide) (fun c7 => ?_) (fun c7 => ?_)
        · replace K := K.1 c7
          refine mw_aload_n (pc' := 100) dX12_laysWays_99 rfl rfl ?_
          refine mw_getR (pc' := 103) dX12_laysWays_100 rfl flX12_135 rfl (skT_47 hS) ?_
          rw [skR_47_62 hS]
          refine mw_iload_n (pc' := 104) dX12_laysWays_103 rfl rfl ?_
          refine mw_iload (pc' := 106) dX12_laysWays_104 rfl rfl ?_
          obtain ⟨o5, K⟩ := K
          refine mw_iastK (pc' := 107) dX12_laysWays_106 rfl (skT_89 hS) (skL_89 hS) o5 hS (fun h6 eh6 hS => ?_)
          replace K := K h6 eh6
          refine mw_iconst (pc' := 108) (v := 1) dX12_laysWays_107 rfl (by decide) ?_
          refine mw_istore_n (pc' := 109) dX12_laysWays_108 rfl (by decide) ?_
          show mW _ _ _ _ _ [some (.inr (some 47)), some (.inl v1), some (.inl 1), some (.inl v3), some (.inl x3)] _ _ _
          refine mw_iinc (pc' := 112) (v := v3 + 1) dX12_laysWays_109 rfl (by decide) rfl rfl ?_
          show mW _ _ _ _ _ [some (.inr (some 47)), some (.inl v1), some (.inl 1), some (.inl (v3 + 1)), some (.inl x3)] _ _ _
          refine mw_goto (tgt := 45) dX12_laysWays_112 (by decide) ?_
          refine mw_weak (ls' := [some (.inr (some 47)), some (.inl v1), some (.inl 1), some (.inl (v3 + 1)), none]) ?_ ?_
          · intro i v hv; match i, hv with
            | 0, hv => exact hv
            | 1, hv => exact hv
            | 2, hv => exact hv
            | 3, hv => exact hv
            | 4, hv => cases hv
            | n + 5, hv => cases hv
          exact K
        · replace K := K.2 c7
          refine mw_goto (tgt := 109) dX12_laysWays_96 (by decide) ?_
          refine mw_iinc (pc' := 112) (v := v3 + 1) dX12_laysWays_109 rfl (by decide) rfl rfl ?_
          show mW _ _ _ _ _ [some (.inr (some 47)), some (.inl v1), some (.inl v2), some (.inl (v3 + 1)), some (.inl x3)] _ _ _
          refine mw_goto (tgt := 45) dX12_laysWays_112 (by decide) ?_
          refine mw_weak (ls' := [some (.inr (some 47)), some (.inl v1), some (.inl v2), some (.inl (v3 + 1)), none]) ?_ ?_
          · intro i v hv; match i, hv with
            | 0, hv => exact hv
            | 1, hv => exact hv
            | 2, hv => exact hv
            | 3, hv => exact hv
            | 4, hv => cases hv
            | n + 5, hv => cases hv
          exact K
      · replace K := K.2 c8
        refine mw_goto (tgt := 109) dX12_laysWays_70 (by decide) ?_
        refine mw_iinc (pc' := 112) (v := v3 + 1) dX12_laysWays_109 rfl (by decide) rfl rfl ?_
        show mW _ _ _ _ _ [some (.inr (some 47)), some (.inl v1), some (.inl v2), some (.inl (v3 + 1)), none] _ _ _
        refine mw_goto (tgt := 45) dX12_laysWays_112 (by decide) ?_
        exact K

set_option maxRecDepth 100000 in
set_option maxHeartbeats 4000000 in
theorem qX12_firstBy {G : mG} {d : Nat} {b : Nat × Nat} {h : mH} {Q : Option mV → mH → Prop} (v1 : Int32) (v2 : Int32) (hS : mSk h)
    (K : mC G kX12_stepBy (d + 1) (0, 0) [.inr (some 47), .inl v1, .inl v2, .inl v2] h (fun r h1 => ∃ x2, r = some (.inl x2) ∧ mSk h1 ∧ Q (some (.inl x2)) h1)) : mC G kX12_firstBy (d + 2) b [.inr (some 47), .inl v1, .inl v2] h Q := by
  refine mC_in rfl (Nat.le_of_ble_eq_true rfl) ?_
  show mW _ _ _ _ _ [some (.inr (some 47)), some (.inl v1), some (.inl v2)] _ _ _
  refine mw_aload_n (pc' := 1) dX12_firstBy_0 rfl rfl ?_
  refine mw_iload_n (pc' := 2) dX12_firstBy_1 rfl rfl ?_
  refine mw_iload_n (pc' := 3) dX12_firstBy_2 rfl rfl ?_
  refine mw_iload_n (pc' := 4) dX12_firstBy_3 rfl rfl ?_
  refine mw_callV (pc' := 7) (b' := (0, 0)) (b1 := b) (av := [.inl v1, .inl v2, .inl v2]) (rest := []) dX12_firstBy_4 rfl lkX12_456 rfl rfl (Nat.le_of_ble_eq_true rfl) ⟨Nat.le_of_eq (Nat.zero_add _), Nat.le_of_eq (Nat.zero_add _)⟩ (skT_47 hS) ?_
  refine mC_mono (fun r h1 hr => ?_) K
  obtain ⟨x2, rfl, hS, K⟩ := hr
  show mW _ _ _ _ _ _ [.inl x2] _ _
  exact mw_iret dX12_firstBy_7 rfl rfl K

set_option maxRecDepth 100000 in
set_option maxHeartbeats 4000000 in
theorem qX12_wayIn {G : mG} {d : Nat} {b : Nat × Nat} {h : mH} {Q : Option mV → mH → Prop} (v1 : Int32) (v2 : Int32) (v3 : Int32) (v4 : Int32) (v5 : Int32) (hS : mSk h)
    (K : (((f_X12_isCell v1 v2) = 0 → Q (some (.inl (-1))) h) ∧ (¬ (f_X12_isCell v1 v2) = 0 → (((f_X12_isCell v3 v4) = 0 → Q (some (.inl (-1))) h) ∧ (¬ (f_X12_isCell v3 v4) = 0 → ((¬ (f_X12_in v5 (-1) 100) = 0 → mC G kX12_laysSure (d + 8) (0, 0) [.inr (some 47)] h (fun r h1 => ∃ x2, r = some (.inl x2) ∧ mSk h1 ∧ ((x2 = 0 → Q (some (.inl (-2))) h1) ∧ (¬ x2 = 0 → vp_in ((32 * v2) + v1) 1024 ∧ (((mI h1 88 ((32 * v2) + v1).toNatClampNeg) = 0 → Q (some (.inl (-2))) h1) ∧ (¬ (mI h1 88 ((32 * v2) + v1).toNatClampNeg) = 0 → vp_in ((32 * v4) + v3) 1024 ∧ ((¬ (mI h1 88 ((32 * v4) + v3).toNatClampNeg) = 0 → ((¬ ((32 * v2) + v1) = ((32 * v4) + v3) → mC G kX12_laysWays (d + 8) (0, 0) [.inr (some 47), .inl ((32 * v4) + v3)] h1 (fun r h5 => r = none ∧ mSk h5 ∧ mW G kX12_wayIn (d + 9) b 117 [some (.inr (some 47)), none, none, none, none, some (.inl v5), some (.inl ((32 * v2) + v1)), none, some (.inl 1000000000), some (.inl 0), none, none, none] [] h5 Q)) ∧ (((32 * v2) + v1) = ((32 * v4) + v3) → ∀ w6 : Int32, w6 = (if v5 = (-1) then 0 else (if ¬ v5 = 100 then (-1) else 0)) → Q (some (.inl w6)) h1))) ∧ ((mI h1 88 ((32 * v4) + v3).toNatClampNeg) = 0 → Q (some (.inl (-2))) h1)))))))) ∧ ((f_X12_in v5 (-1) 100) = 0 → Q (some (.inl (-1))) h))))))) : mC G kX12_wayIn (d + 9) b [.inr (some 47), .inl v1, .inl v2, .inl v3, .inl v4, .inl v5] h Q := by
  refine mC_in rfl (Nat.le_of_ble_eq_true rfl) ?_
  show mW _ _ _ _ _ [some (.inr (some 47)), some (.inl v1), some (.inl v2), some (.inl v3), some (.inl v4), some (.inl v5), none, none, none, none, none, none, none] _ _ _
  refine mw_iload_n (pc' := 1) dX12_wayIn_0 rfl rfl ?_
  refine mw_iload_n (pc' := 2) dX12_wayIn_1 rfl rfl ?_
  refine mw_callS (pc' := 5) (b' := (0, 0)) (b1 := b) (av := [.inl v1, .inl v2]) (rest := []) dX12_wayIn_2 rfl lkX12_190 rfl rfl (Nat.le_of_ble_eq_true rfl) ⟨Nat.le_of_eq (Nat.zero_add _), Nat.le_of_eq (Nat.zero_add _)⟩ ?_
  refine pX12_isCell ?_
  refine mw_if_eq (pc' := 8) (tgt := 28) dX12_wayIn_5 rfl (by decide) (fun c16 => ?_) (fun c16 => ?_)
  · replace K := K.1 c16
    refine mw_iconst (pc' := 29) (v := (-1)) dX12_wayIn_28 rfl (by decide) ?_
    exact mw_iret dX12_wayIn_29 rfl rfl K
  · replace K := K.2 c16
    refine mw_iload_n (pc' := 9) dX12_wayIn_8 rfl rfl ?_
    refine mw_iload (pc' := 11) dX12_wayIn_9 rfl rfl ?_
    refine mw_callS (pc' := 14) (b' := (0, 0)) (b1 := b) (av := [.inl v3, .inl v4]) (rest := []) dX12_wayIn_11 rfl lkX12_190 rfl rfl (Nat.le_of_ble_eq_true rfl) ⟨Nat.le_of_eq (Nat.zero_add _), Nat.le_of_eq (Nat.zero_add _)⟩ ?_
    refine pX12_isCell ?_
    refine mw_if_eq (pc' := 17) (tgt := 28) dX12_wayIn_14 rfl (by decide) (fun c15 => ?_) (fun c15 => ?_)
    · replace K := K.1 c15
      refine mw_iconst (pc' := 29) (v := (-1)) dX12_wayIn_28 rfl (by decide) ?_
      exact mw_iret dX12_wayIn_29 rfl rfl K
    · replace K := K.2 c15
      refine mw_iload (pc' := 19) dX12_wayIn_17 rfl rfl ?_
      refine mw_iconst (pc' := 20) (v := (-1)) dX12_wayIn_19 rfl (by decide) ?_
      refine mw_bipush (pc' := 22) (v := 100) dX12_wayIn_20 rfl (by decide) ?_
      refine mw_callS (pc' := 25) (b' := (0, 0)) (b1 := b) (av := [.inl v5, .inl (-1), .inl 100]) (rest := []) dX12_wayIn_22 rfl lkX12_173 rfl rfl (Nat.le_of_ble_eq_true rfl) ⟨Nat.le_of_eq (Nat.zero_add _), Nat.le_of_eq (Nat.zero_add _)⟩ ?_
      refine pX12_in ?_
      refine mw_if_ne (pc' := 28) (tgt := 30) dX12_wayIn_25 rfl (by decide) (fun c14 => ?_) (fun c14 => ?_)
      · replace K := K.1 c14
        refine mw_bipush (pc' := 32) (v := 32) dX12_wayIn_30 rfl (by decide) ?_
        refine mw_iload_n (pc' := 33) dX12_wayIn_32 rfl rfl ?_
        refine mw_imul (pc' := 34) dX12_wayIn_33 rfl ?_
        refine mw_iload_n (pc' := 35) dX12_wayIn_34 rfl rfl ?_
        refine mw_iadd (pc' := 36) dX12_wayIn_35 rfl ?_
        refine mw_istore (pc' := 38) dX12_wayIn_36 rfl (by decide) ?_
        show mW _ _ _ _ _ [some (.inr (some 47)), some (.inl v1), some (.inl v2), some (.inl v3), some (.inl v4), some (.inl v5), some (.inl ((32 * v2) + v1)), none, none, none, none, none, none] _ _ _
        refine mw_bipush (pc' := 40) (v := 32) dX12_wayIn_38 rfl (by decide) ?_
        refine mw_iload (pc' := 42) dX12_wayIn_40 rfl rfl ?_
        refine mw_imul (pc' := 43) dX12_wayIn_42 rfl ?_
        refine mw_iload_n (pc' := 44) dX12_wayIn_43 rfl rfl ?_
        refine mw_iadd (pc' := 45) dX12_wayIn_44 rfl ?_
        refine mw_istore (pc' := 47) dX12_wayIn_45 rfl (by decide) ?_
        show mW _ _ _ _ _ [some (.inr (some 47)), some (.inl v1), some (.inl v2), some (.inl v3), some (.inl v4), some (.inl v5), some (.inl ((32 * v2) + v1)), some (.inl ((32 * v4) + v3)), none, none, none, none, none] _ _ _
        refine mw_aload_n (pc' := 48) dX12_wayIn_47 rfl rfl ?_
        refine mw_callV (pc' := 51) (b' := (0, 0)) (b1 := b) (av := []) (rest := []) dX12_wayIn_48 rfl lkX12_462 rfl rfl (Nat.le_of_ble_eq_true rfl) ⟨Nat.le_of_eq (Nat.zero_add _), Nat.le_of_eq (Nat.zero_add _)⟩ (skT_47 hS) ?_
        refine mC_mono (fun r h1 hr => ?_) K
        obtain ⟨x2, rfl, hS, K⟩ := hr
        show mW _ _ _ _ _ _ [.inl x2] _ _
        refine mw_if_eq (pc' := 54) (tgt := 74) dX12_wayIn_51 rfl (by decide) (fun c13 => ?_) (fun c13 => ?_)
        · replace K := K.1 c13
          refine mw_bipush (pc' := 76) (v := (-2)) dX12_wayIn_74 rfl (by decide) ?_
          exact mw_iret dX12_wayIn_76 rfl rfl K
        · replace K := K.2 c13
          refine mw_aload_n (pc' := 55) dX12_wayIn_54 rfl rfl ?_
          refine mw_getR (pc' := 58) dX12_wayIn_55 rfl flX12_132 rfl (skT_47 hS) ?_
          rw [skR_47_61 hS]
          refine mw_iload (pc' := 60) dX12_wayIn_58 rfl rfl ?_
          obtain ⟨o3, K⟩ := K
          refine mw_baldL (pc' := 61) dX12_wayIn_60 rfl (skT_88 hS) (skL_88 hS) o3 ?_
          refine mw_if_eq (pc' := 64) (tgt := 74) dX12_wayIn_61 rfl (by decide) (fun c12 => ?_) (fun c12 => ?_)
          · replace K := K.1 c12
            refine mw_bipush (pc' := 76) (v := (-2)) dX12_wayIn_74 rfl (by decide) ?_
            exact mw_iret dX12_wayIn_76 rfl rfl K
          · replace K := K.2 c12
            refine mw_aload_n (pc' := 65) dX12_wayIn_64 rfl rfl ?_
            refine mw_getR (pc' := 68) dX12_wayIn_65 rfl flX12_132 rfl (skT_47 hS) ?_
            rw [skR_47_61 hS]
            refine mw_iload (pc' := 70) dX12_wayIn_68 rfl rfl ?_
            obtain ⟨o4, K⟩ := K
            refine mw_baldL (pc' := 71) dX12_wayIn_70 rfl (skT_88 hS) (skL_88 hS) o4 ?_
            refine mw_if_ne (pc' := 74) (tgt := 77) dX12_wayIn_71 rfl (by decide) (fun c11 => ?_) (fun c11 => ?_)
            · replace K := K.1 c11
              refine mw_iload (pc' := 79) dX12_wayIn_77 rfl rfl ?_
              refine mw_iload (pc' := 81) dX12_wayIn_79 rfl rfl ?_
              refine mw_icmp_ne (pc' := 84) (tgt := 103) dX12_wayIn_81 rfl (by decide) (fun c10 => ?_) (fun c10 => ?_)
              · replace K := K.1 c10
                refine mw_aload_n (pc' := 104) dX12_wayIn_103 rfl rfl ?_
                refine mw_iload (pc' := 106) dX12_wayIn_104 rfl rfl ?_
                refine mw_callV (pc' := 109) (b' := (0, 0)) (b1 := b) (av := [.inl ((32 * v4) + v3)]) (rest := []) dX12_wayIn_106 rfl lkX12_465 rfl rfl (Nat.le_of_ble_eq_true rfl) ⟨Nat.le_of_eq (Nat.zero_add _), Nat.le_of_eq (Nat.zero_add _)⟩ (skT_47 hS) ?_
                refine mC_mono (fun r h5 hr => ?_) K
                obtain ⟨rfl, hS, K⟩ := hr
                show mW _ _ _ _ _ _ [] _ _
                refine mw_ldcw (pc' := 112) dX12_wayIn_109 rfl cnX12_359 ?_
                refine mw_istore (pc' := 114) dX12_wayIn_112 rfl (by decide) ?_
                show mW _ _ _ _ _ [some (.inr (some 47)), some (.inl v1), some (.inl v2), some (.inl v3), some (.inl v4), some (.inl v5), some (.inl ((32 * v2) + v1)), some (.inl ((32 * v4) + v3)), some (.inl 1000000000), none, none, none, none] _ _ _
                refine mw_iconst (pc' := 115) (v := 0) dX12_wayIn_114 rfl (by decide) ?_
                refine mw_istore (pc' := 117) dX12_wayIn_115 rfl (by decide) ?_
                show mW _ _ _ _ _ [some (.inr (some 47)), some (.inl v1), some (.inl v2), some (.inl v3), some (.inl v4), some (.inl v5), some (.inl ((32 * v2) + v1)), some (.inl ((32 * v4) + v3)), some (.inl 1000000000), some (.inl 0), none, none, none] _ _ _
                refine mw_weak (ls' := [some (.inr (some 47)), none, none, none, none, some (.inl v5), some (.inl ((32 * v2) + v1)), none, some (.inl 1000000000), some (.inl 0), none, none, none]) ?_ ?_
                · intro i v hv; match i, hv with
                  | 0, hv => exact hv
                  | 1, hv => cases hv
                  | 2, hv => cases hv
                  | 3, hv => cases hv
                  | 4, hv => cases hv
                  | 5, hv => exact hv
                  | 6, hv => exact hv
                  | 7, hv => cases hv
                  | 8, hv => exact hv
                  | 9, hv => exact hv
                  | 10, hv => cases hv
                  | 11, hv => cases hv
                  | 12, hv => cases hv
                  | n + 13, hv => cases hv
                exact K
              · replace K := K.2 c10
                refine mw_iload (pc' := 86) dX12_wayIn_84 rfl rfl ?_
                refine mw_iconst (pc' := 87) (v := (-1)) dX12_wayIn_86 rfl (by decide) ?_
                have J7 : ∀ w6 : Int32, w6 = (if v5 = (-1) then 0 else (if ¬ v5 = 100 then (-1) else 0)) → mW G kX12_wayIn (d + 9) b 102 [some (.inr (some 47)), some (.inl v1), some (.inl v2), some (.inl v3), some (.inl v4), some (.inl v5), some (.inl ((32 * v2) + v1)), some (.inl ((32 * v4) + v3)), none, none, none, none, none] ([.inl w6]) h1 Q := by
                  intro w6 ew6
                  replace K := K w6 ew6
                  exact mw_iret dX12_wayIn_102 rfl rfl K
                refine mw_icmp_eq (pc' := 90) (tgt := 97) dX12_wayIn_87 rfl (by decide) (fun c8 => ?_) (fun c8 => ?_)
                · refine mw_iconst (pc' := 98) (v := 0) dX12_wayIn_97 rfl (by decide) ?_
                  refine mw_goto (tgt := 102) dX12_wayIn_98 (by decide) ?_
                  exact J7 _ (by rw [if_pos c8])
                · refine mw_iload (pc' := 92) dX12_wayIn_90 rfl rfl ?_
                  refine mw_bipush (pc' := 94) (v := 100) dX12_wayIn_92 rfl (by decide) ?_
                  refine mw_icmp_ne (pc' := 97) (tgt := 101) dX12_wayIn_94 rfl (by decide) (fun c9 => ?_) (fun c9 => ?_)
                  · refine mw_iconst (pc' := 102) (v := (-1)) dX12_wayIn_101 rfl (by decide) ?_
                    exact J7 _ (by rw [if_neg c8, if_pos c9])
                  · refine mw_iconst (pc' := 98) (v := 0) dX12_wayIn_97 rfl (by decide) ?_
                    refine mw_goto (tgt := 102) dX12_wayIn_98 (by decide) ?_
                    exact J7 _ (by rw [if_neg c8, if_neg (fun z => z c9)])
            · replace K := K.2 c11
              refine mw_bipush (pc' := 76) (v := (-2)) dX12_wayIn_74 rfl (by decide) ?_
              exact mw_iret dX12_wayIn_76 rfl rfl K
      · replace K := K.2 c14
        refine mw_iconst (pc' := 29) (v := (-1)) dX12_wayIn_28 rfl (by decide) ?_
        exact mw_iret dX12_wayIn_29 rfl rfl K

set_option maxRecDepth 100000 in
set_option maxHeartbeats 4000000 in
theorem qX12_wayIn_117 {G : mG} {d : Nat} {b : Nat × Nat} {h : mH} {Q : Option mV → mH → Prop} (v5 : Int32) (v6 : Int32) (v8 : Int32) (v9 : Int32) (hS : mSk h)
    (K : ((4 ≤ v9 → ((v8 < 1000000000 → ((¬ v5 = (-1) → ((¬ v5 = 100 → ((v5 < (m_rem v8 10000) → mW G kX12_wayIn (d + 9) b 198 [some (.inr (some 47)), none, none, none, none, some (.inl v5), some (.inl v6), none, some (.inl v8), some (.inl 0), none, none, none] [] h Q) ∧ (¬ (v5 < (m_rem v8 10000)) → Q (some (.inl (-1))) h))) ∧ (v5 = 100 → Q (some (.inl (m_rem v8 10000))) h))) ∧ (v5 = (-1) → Q (some (.inl (v8 / 10000))) h))) ∧ (¬ (v8 < 1000000000) → Q (some (.inl (-2))) h))) ∧ (¬ (4 ≤ v9) → mC G kX12_firstBy (d + 8) (0, 0) [.inr (some 47), .inl v6, .inl v9] h (fun r h5 => ∃ x6, r = some (.inl x6) ∧ mSk h5 ∧ mW G kX12_wayIn (d + 9) b 117 [some (.inr (some 47)), none, none, none, none, some (.inl v5), some (.inl v6), none, some (.inl (f_X12_least v8 x6)), some (.inl (v9 + 1)), none, none, none] [] h5 Q)))) : mW G kX12_wayIn (d + 9) b 117 [some (.inr (some 47)), none, none, none, none, some (.inl v5), some (.inl v6), none, some (.inl v8), some (.inl v9), none, none, none] [] h Q := by
  refine mw_iload (pc' := 119) dX12_wayIn_117 rfl rfl ?_
  refine mw_iconst (pc' := 120) (v := 4) dX12_wayIn_119 rfl (by decide) ?_
  refine mw_icmp_ge (pc' := 123) (tgt := 144) dX12_wayIn_120 rfl (by decide) (fun c7 => ?_) (fun c7 => ?_)
  · replace K := K.1 c7
    refine mw_iload (pc' := 146) dX12_wayIn_144 rfl rfl ?_
    refine mw_ldcw (pc' := 149) dX12_wayIn_146 rfl cnX12_359 ?_
    refine mw_icmp_lt (pc' := 152) (tgt := 155) dX12_wayIn_149 rfl (by decide) (fun c4 => ?_) (fun c4 => ?_)
    · replace K := K.1 c4
      refine mw_iload (pc' := 157) dX12_wayIn_155 rfl rfl ?_
      refine mw_iconst (pc' := 158) (v := (-1)) dX12_wayIn_157 rfl (by decide) ?_
      refine mw_icmp_ne (pc' := 161) (tgt := 168) dX12_wayIn_158 rfl (by decide) (fun c3 => ?_) (fun c3 => ?_)
      · replace K := K.1 c3
        refine mw_iload (pc' := 170) dX12_wayIn_168 rfl rfl ?_
        refine mw_bipush (pc' := 172) (v := 100) dX12_wayIn_170 rfl (by decide) ?_
        refine mw_icmp_ne (pc' := 175) (tgt := 182) dX12_wayIn_172 rfl (by decide) (fun c2 => ?_) (fun c2 => ?_)
        · replace K := K.1 c2
          refine mw_iload (pc' := 184) dX12_wayIn_182 rfl rfl ?_
          refine mw_iload (pc' := 186) dX12_wayIn_184 rfl rfl ?_
          refine mw_sipush (pc' := 189) (v := 10000) dX12_wayIn_186 rfl (by decide) ?_
          refine mw_iremM (pc' := 190) dX12_wayIn_189 rfl (by decide) ?_
          refine mw_icmp_lt (pc' := 193) (tgt := 195) dX12_wayIn_190 rfl (by decide) (fun c1 => ?_) (fun c1 => ?_)
          · replace K := K.1 c1
            refine mw_iconst (pc' := 196) (v := 0) dX12_wayIn_195 rfl (by decide) ?_
            refine mw_istore (pc' := 198) dX12_wayIn_196 rfl (by decide) ?_
            show mW _ _ _ _ _ [some (.inr (some 47)), none, none, none, none, some (.inl v5), some (.inl v6), none, some (.inl v8), some (.inl 0), none, none, none] _ _ _
            exact K
          · replace K := K.2 c1
            refine mw_iconst (pc' := 194) (v := (-1)) dX12_wayIn_193 rfl (by decide) ?_
            exact mw_iret dX12_wayIn_194 rfl rfl K
        · replace K := K.2 c2
          refine mw_iload (pc' := 177) dX12_wayIn_175 rfl rfl ?_
          refine mw_sipush (pc' := 180) (v := 10000) dX12_wayIn_177 rfl (by decide) ?_
          refine mw_iremM (pc' := 181) dX12_wayIn_180 rfl (by decide) ?_
          exact mw_iret dX12_wayIn_181 rfl rfl K
      · replace K := K.2 c3
        refine mw_iload (pc' := 163) dX12_wayIn_161 rfl rfl ?_
        refine mw_sipush (pc' := 166) (v := 10000) dX12_wayIn_163 rfl (by decide) ?_
        refine mw_idiv (pc' := 167) dX12_wayIn_166 rfl (by decide) ?_
        exact mw_iret dX12_wayIn_167 rfl rfl K
    · replace K := K.2 c4
      refine mw_bipush (pc' := 154) (v := (-2)) dX12_wayIn_152 rfl (by decide) ?_
      exact mw_iret dX12_wayIn_154 rfl rfl K
  · replace K := K.2 c7
    refine mw_iload (pc' := 125) dX12_wayIn_123 rfl rfl ?_
    refine mw_aload_n (pc' := 126) dX12_wayIn_125 rfl rfl ?_
    refine mw_iload (pc' := 128) dX12_wayIn_126 rfl rfl ?_
    refine mw_iload (pc' := 130) dX12_wayIn_128 rfl rfl ?_
    refine mw_callV (pc' := 133) (b' := (0, 0)) (b1 := b) (av := [.inl v6, .inl v9]) (rest := [.inl v8]) dX12_wayIn_130 rfl lkX12_468 rfl rfl (Nat.le_of_ble_eq_true rfl) ⟨Nat.le_of_eq (Nat.zero_add _), Nat.le_of_eq (Nat.zero_add _)⟩ (skT_47 hS) ?_
    refine mC_mono (fun r h5 hr => ?_) K
    obtain ⟨x6, rfl, hS, K⟩ := hr
    show mW _ _ _ _ _ _ [.inl x6, .inl v8] _ _
    refine mw_callS (pc' := 136) (b' := (0, 0)) (b1 := b) (av := [.inl v8, .inl x6]) (rest := []) dX12_wayIn_133 rfl lkX12_363 rfl rfl (Nat.le_of_ble_eq_true rfl) ⟨Nat.le_of_eq (Nat.zero_add _), Nat.le_of_eq (Nat.zero_add _)⟩ ?_
    refine pX12_least ?_
    refine mw_istore (pc' := 138) dX12_wayIn_136 rfl (by decide) ?_
    show mW _ _ _ _ _ [some (.inr (some 47)), none, none, none, none, some (.inl v5), some (.inl v6), none, some (.inl (f_X12_least v8 x6)), some (.inl v9), none, none, none] _ _ _
    refine mw_iinc (pc' := 141) (v := v9 + 1) dX12_wayIn_138 rfl (by decide) rfl rfl ?_
    show mW _ _ _ _ _ [some (.inr (some 47)), none, none, none, none, some (.inl v5), some (.inl v6), none, some (.inl (f_X12_least v8 x6)), some (.inl (v9 + 1)), none, none, none] _ _ _
    refine mw_goto (tgt := 117) dX12_wayIn_141 (by decide) ?_
    exact K

set_option maxRecDepth 100000 in
set_option maxHeartbeats 4000000 in
theorem qX12_wayIn_198 {G : mG} {d : Nat} {b : Nat × Nat} {h : mH} {Q : Option mV → mH → Prop} (v5 : Int32) (v6 : Int32) (v8 : Int32) (v9 : Int32) (hS : mSk h)
    (K : mC G kX12_firstBy (d + 8) (0, 0) [.inr (some 47), .inl v6, .inl v9] h (fun r h1 => ∃ x2, r = some (.inl x2) ∧ mSk h1 ∧ ((x2 = v8 → mW G kX12_wayIn (d + 9) b 227 [some (.inr (some 47)), none, none, none, none, some (.inl v5), none, none, none, some (.inl v9), some (.inl v6), some (.inl 0), none] [] h1 Q) ∧ (¬ x2 = v8 → mW G kX12_wayIn (d + 9) b 198 [some (.inr (some 47)), none, none, none, none, some (.inl v5), some (.inl v6), none, some (.inl v8), some (.inl (v9 + 1)), none, none, none] [] h1 Q)))) : mW G kX12_wayIn (d + 9) b 198 [some (.inr (some 47)), none, none, none, none, some (.inl v5), some (.inl v6), none, some (.inl v8), some (.inl v9), none, none, none] [] h Q := by
  refine mw_aload_n (pc' := 199) dX12_wayIn_198 rfl rfl ?_
  refine mw_iload (pc' := 201) dX12_wayIn_199 rfl rfl ?_
  refine mw_iload (pc' := 203) dX12_wayIn_201 rfl rfl ?_
  refine mw_callV (pc' := 206) (b' := (0, 0)) (b1 := b) (av := [.inl v6, .inl v9]) (rest := []) dX12_wayIn_203 rfl lkX12_468 rfl rfl (Nat.le_of_ble_eq_true rfl) ⟨Nat.le_of_eq (Nat.zero_add _), Nat.le_of_eq (Nat.zero_add _)⟩ (skT_47 hS) ?_
  refine mC_mono (fun r h1 hr => ?_) K
  obtain ⟨x2, rfl, hS, K⟩ := hr
  show mW _ _ _ _ _ _ [.inl x2] _ _
  refine mw_iload (pc' := 208) dX12_wayIn_206 rfl rfl ?_
  refine mw_icmp_eq (pc' := 211) (tgt := 220) dX12_wayIn_208 rfl (by decide) (fun c3 => ?_) (fun c3 => ?_)
  · replace K := K.1 c3
    refine mw_iload (pc' := 222) dX12_wayIn_220 rfl rfl ?_
    refine mw_istore (pc' := 224) dX12_wayIn_222 rfl (by decide) ?_
    show mW _ _ _ _ _ [some (.inr (some 47)), none, none, none, none, some (.inl v5), some (.inl v6), none, some (.inl v8), some (.inl v9), some (.inl v6), none, none] _ _ _
    refine mw_iconst (pc' := 225) (v := 0) dX12_wayIn_224 rfl (by decide) ?_
    refine mw_istore (pc' := 227) dX12_wayIn_225 rfl (by decide) ?_
    show mW _ _ _ _ _ [some (.inr (some 47)), none, none, none, none, some (.inl v5), some (.inl v6), none, some (.inl v8), some (.inl v9), some (.inl v6), some (.inl 0), none] _ _ _
    refine mw_weak (ls' := [some (.inr (some 47)), none, none, none, none, some (.inl v5), none, none, none, some (.inl v9), some (.inl v6), some (.inl 0), none]) ?_ ?_
    · intro i v hv; match i, hv with
      | 0, hv => exact hv
      | 1, hv => cases hv
      | 2, hv => cases hv
      | 3, hv => cases hv
      | 4, hv => cases hv
      | 5, hv => exact hv
      | 6, hv => cases hv
      | 7, hv => cases hv
      | 8, hv => cases hv
      | 9, hv => exact hv
      | 10, hv => exact hv
      | 11, hv => exact hv
      | 12, hv => cases hv
      | n + 13, hv => cases hv
    exact K
  · replace K := K.2 c3
    refine mw_iload (pc' := 213) dX12_wayIn_211 rfl rfl ?_
    refine mw_iconst (pc' := 214) (v := 1) dX12_wayIn_213 rfl (by decide) ?_
    refine mw_iadd (pc' := 215) dX12_wayIn_214 rfl ?_
    refine mw_istore (pc' := 217) dX12_wayIn_215 rfl (by decide) ?_
    show mW _ _ _ _ _ [some (.inr (some 47)), none, none, none, none, some (.inl v5), some (.inl v6), none, some (.inl v8), some (.inl (v9 + 1)), none, none, none] _ _ _
    refine mw_goto (tgt := 198) dX12_wayIn_217 (by decide) ?_
    exact K

set_option maxRecDepth 100000 in
set_option maxHeartbeats 4000000 in
theorem qX12_wayIn_227 {G : mG} {d : Nat} {b : Nat × Nat} {h : mH} {Q : Option mV → mH → Prop} (v5 : Int32) (v9 : Int32) (v10 : Int32) (v11 : Int32) (hS : mSk h)
    (K : ((v5 ≤ v11 → Q (some (.inl v9)) h) ∧ (¬ (v5 ≤ v11) → mW G kX12_wayIn (d + 9) b 265 [some (.inr (some 47)), none, none, none, none, some (.inl v5), none, none, none, some (.inl v9), some (.inl (((32 * ((v10 / 32) + (f_X12_stepY v9))) + (m_rem v10 32)) + (f_X12_stepX v9))), some (.inl v11), some (.inl 0)] [] h Q))) : mW G kX12_wayIn (d + 9) b 227 [some (.inr (some 47)), none, none, none, none, some (.inl v5), none, none, none, some (.inl v9), some (.inl v10), some (.inl v11), none] [] h Q := by
  refine mw_iload (pc' := 229) dX12_wayIn_227 rfl rfl ?_
  refine mw_iload (pc' := 231) dX12_wayIn_229 rfl rfl ?_
  refine mw_icmp_ge (pc' := 234) (tgt := 309) dX12_wayIn_231 rfl (by decide) (fun c1 => ?_) (fun c1 => ?_)
  · replace K := K.1 c1
    refine mw_iload (pc' := 311) dX12_wayIn_309 rfl rfl ?_
    exact mw_iret dX12_wayIn_311 rfl rfl K
  · replace K := K.2 c1
    refine mw_bipush (pc' := 236) (v := 32) dX12_wayIn_234 rfl (by decide) ?_
    refine mw_iload (pc' := 238) dX12_wayIn_236 rfl rfl ?_
    refine mw_bipush (pc' := 240) (v := 32) dX12_wayIn_238 rfl (by decide) ?_
    refine mw_idiv (pc' := 241) dX12_wayIn_240 rfl (by decide) ?_
    refine mw_iload (pc' := 243) dX12_wayIn_241 rfl rfl ?_
    refine mw_callS (pc' := 246) (b' := (0, 0)) (b1 := b) (av := [.inl v9]) (rest := [.inl (v10 / 32), .inl 32]) dX12_wayIn_243 rfl lkX12_199 rfl rfl (Nat.le_of_ble_eq_true rfl) ⟨Nat.le_of_eq (Nat.zero_add _), Nat.le_of_eq (Nat.zero_add _)⟩ ?_
    refine pX12_stepY ?_
    refine mw_iadd (pc' := 247) dX12_wayIn_246 rfl ?_
    refine mw_imul (pc' := 248) dX12_wayIn_247 rfl ?_
    refine mw_iload (pc' := 250) dX12_wayIn_248 rfl rfl ?_
    refine mw_bipush (pc' := 252) (v := 32) dX12_wayIn_250 rfl (by decide) ?_
    refine mw_iremM (pc' := 253) dX12_wayIn_252 rfl (by decide) ?_
    refine mw_iadd (pc' := 254) dX12_wayIn_253 rfl ?_
    refine mw_iload (pc' := 256) dX12_wayIn_254 rfl rfl ?_
    refine mw_callS (pc' := 259) (b' := (0, 0)) (b1 := b) (av := [.inl v9]) (rest := [.inl ((32 * ((v10 / 32) + (f_X12_stepY v9))) + (m_rem v10 32))]) dX12_wayIn_256 rfl lkX12_196 rfl rfl (Nat.le_of_ble_eq_true rfl) ⟨Nat.le_of_eq (Nat.zero_add _), Nat.le_of_eq (Nat.zero_add _)⟩ ?_
    refine pX12_stepX ?_
    refine mw_iadd (pc' := 260) dX12_wayIn_259 rfl ?_
    refine mw_istore (pc' := 262) dX12_wayIn_260 rfl (by decide) ?_
    show mW _ _ _ _ _ [some (.inr (some 47)), none, none, none, none, some (.inl v5), none, none, none, some (.inl v9), some (.inl (((32 * ((v10 / 32) + (f_X12_stepY v9))) + (m_rem v10 32)) + (f_X12_stepX v9))), some (.inl v11), none] _ _ _
    refine mw_iconst (pc' := 263) (v := 0) dX12_wayIn_262 rfl (by decide) ?_
    refine mw_istore (pc' := 265) dX12_wayIn_263 rfl (by decide) ?_
    show mW _ _ _ _ _ [some (.inr (some 47)), none, none, none, none, some (.inl v5), none, none, none, some (.inl v9), some (.inl (((32 * ((v10 / 32) + (f_X12_stepY v9))) + (m_rem v10 32)) + (f_X12_stepX v9))), some (.inl v11), some (.inl 0)] _ _ _
    exact K

set_option maxRecDepth 100000 in
set_option maxHeartbeats 4000000 in
theorem qX12_wayIn_265 {G : mG} {d : Nat} {b : Nat × Nat} {h : mH} {Q : Option mV → mH → Prop} (v5 : Int32) (v9 : Int32) (v10 : Int32) (v11 : Int32) (v12 : Int32) (hS : mSk h)
    (K : mC G kX12_stepBy (d + 8) (0, 0) [.inr (some 47), .inl v10, .inl v9, .inl v12] h (fun r h1 => ∃ x2, r = some (.inl x2) ∧ mSk h1 ∧ vp_in ((4 * v10) + v9) 4096 ∧ ((x2 = (mI h1 89 ((4 * v10) + v9).toNatClampNeg) → mW G kX12_wayIn (d + 9) b 227 [some (.inr (some 47)), none, none, none, none, some (.inl v5), none, none, none, some (.inl v12), some (.inl v10), some (.inl (v11 + 1)), none] [] h1 Q) ∧ (¬ x2 = (mI h1 89 ((4 * v10) + v9).toNatClampNeg) → mW G kX12_wayIn (d + 9) b 265 [some (.inr (some 47)), none, none, none, none, some (.inl v5), none, none, none, some (.inl v9), some (.inl v10), some (.inl v11), some (.inl (v12 + 1))] [] h1 Q)))) : mW G kX12_wayIn (d + 9) b 265 [some (.inr (some 47)), none, none, none, none, some (.inl v5), none, none, none, some (.inl v9), some (.inl v10), some (.inl v11), some (.inl v12)] [] h Q := by
  refine mw_aload_n (pc' := 266) dX12_wayIn_265 rfl rfl ?_
  refine mw_iload (pc' := 268) dX12_wayIn_266 rfl rfl ?_
  refine mw_iload (pc' := 270) dX12_wayIn_268 rfl rfl ?_
  refine mw_iload (pc' := 272) dX12_wayIn_270 rfl rfl ?_
  refine mw_callV (pc' := 275) (b' := (0, 0)) (b1 := b) (av := [.inl v10, .inl v9, .inl v12]) (rest := []) dX12_wayIn_272 rfl lkX12_456 rfl rfl (Nat.le_of_ble_eq_true rfl) ⟨Nat.le_of_eq (Nat.zero_add _), Nat.le_of_eq (Nat.zero_add _)⟩ (skT_47 hS) ?_
  refine mC_mono (fun r h1 hr => ?_) K
  obtain ⟨x2, rfl, hS, K⟩ := hr
  show mW _ _ _ _ _ _ [.inl x2] _ _
  refine mw_aload_n (pc' := 276) dX12_wayIn_275 rfl rfl ?_
  refine mw_getR (pc' := 279) dX12_wayIn_276 rfl flX12_135 rfl (skT_47 hS) ?_
  rw [skR_47_62 hS]
  refine mw_iconst (pc' := 280) (v := 4) dX12_wayIn_279 rfl (by decide) ?_
  refine mw_iload (pc' := 282) dX12_wayIn_280 rfl rfl ?_
  refine mw_imul (pc' := 283) dX12_wayIn_282 rfl ?_
  refine mw_iload (pc' := 285) dX12_wayIn_283 rfl rfl ?_
  refine mw_iadd (pc' := 286) dX12_wayIn_285 rfl ?_
  obtain ⟨o3, K⟩ := K
  refine mw_ialdL (pc' := 287) dX12_wayIn_286 rfl (skT_89 hS) (skL_89 hS) o3 ?_
  refine mw_icmp_eq (pc' := 290) (tgt := 299) dX12_wayIn_287 rfl (by decide) (fun c4 => ?_) (fun c4 => ?_)
  · replace K := K.1 c4
    refine mw_iload (pc' := 301) dX12_wayIn_299 rfl rfl ?_
    refine mw_istore (pc' := 303) dX12_wayIn_301 rfl (by decide) ?_
    show mW _ _ _ _ _ [some (.inr (some 47)), none, none, none, none, some (.inl v5), none, none, none, some (.inl v12), some (.inl v10), some (.inl v11), some (.inl v12)] _ _ _
    refine mw_iinc (pc' := 306) (v := v11 + 1) dX12_wayIn_303 rfl (by decide) rfl rfl ?_
    show mW _ _ _ _ _ [some (.inr (some 47)), none, none, none, none, some (.inl v5), none, none, none, some (.inl v12), some (.inl v10), some (.inl (v11 + 1)), some (.inl v12)] _ _ _
    refine mw_goto (tgt := 227) dX12_wayIn_306 (by decide) ?_
    refine mw_weak (ls' := [some (.inr (some 47)), none, none, none, none, some (.inl v5), none, none, none, some (.inl v12), some (.inl v10), some (.inl (v11 + 1)), none]) ?_ ?_
    · intro i v hv; match i, hv with
      | 0, hv => exact hv
      | 1, hv => cases hv
      | 2, hv => cases hv
      | 3, hv => cases hv
      | 4, hv => cases hv
      | 5, hv => exact hv
      | 6, hv => cases hv
      | 7, hv => cases hv
      | 8, hv => cases hv
      | 9, hv => exact hv
      | 10, hv => exact hv
      | 11, hv => exact hv
      | 12, hv => cases hv
      | n + 13, hv => cases hv
    exact K
  · replace K := K.2 c4
    refine mw_iload (pc' := 292) dX12_wayIn_290 rfl rfl ?_
    refine mw_iconst (pc' := 293) (v := 1) dX12_wayIn_292 rfl (by decide) ?_
    refine mw_iadd (pc' := 294) dX12_wayIn_293 rfl ?_
    refine mw_istore (pc' := 296) dX12_wayIn_294 rfl (by decide) ?_
    show mW _ _ _ _ _ [some (.inr (some 47)), none, none, none, none, some (.inl v5), none, none, none, some (.inl v9), some (.inl v10), some (.inl v11), some (.inl (v12 + 1))] _ _ _
    refine mw_goto (tgt := 265) dX12_wayIn_296 (by decide) ?_
    exact K

set_option maxRecDepth 100000 in
set_option maxHeartbeats 4000000 in
theorem qX12_spreads {G : mG} {d : Nat} {b : Nat × Nat} {h : mH} {Q : Option mV → mH → Prop} (v1 : Int32) (hS : mSk h)
    (K : mW G kX12_spreads (d + 1) b 2 [some (.inr (some 47)), some (.inl v1), some (.inl 0), none, none, none, none, none] [] h Q) : mC G kX12_spreads (d + 1) b [.inr (some 47), .inl v1] h Q := by
  refine mC_in rfl (Nat.le_of_ble_eq_true rfl) ?_
  show mW _ _ _ _ _ [some (.inr (some 47)), some (.inl v1), none, none, none, none, none, none] _ _ _
  refine mw_iconst (pc' := 1) (v := 0) dX12_spreads_0 rfl (by decide) ?_
  refine mw_istore_n (pc' := 2) dX12_spreads_1 rfl (by decide) ?_
  show mW _ _ _ _ _ [some (.inr (some 47)), some (.inl v1), some (.inl 0), none, none, none, none, none] _ _ _
  exact K

set_option maxRecDepth 100000 in
set_option maxHeartbeats 4000000 in
theorem qX12_spreads_2 {G : mG} {d : Nat} {b : Nat × Nat} {h : mH} {Q : Option mV → mH → Prop} (v1 : Int32) (v2 : Int32) (hS : mSk h)
    (K : ((1024 ≤ v2 → vp_in v1 1024 ∧ (((mI h 88 v1.toNatClampNeg) = 0 → mW G kX12_spreads (d + 1) b 58 [some (.inr (some 47)), none, some (.inl 0), some (.inl 0), none, none, none, none] [] h Q) ∧ (¬ (mI h 88 v1.toNatClampNeg) = 0 → vp_in v1 1024 ∧ ∀ h3, h3 = mSI h 90 v1.toNatClampNeg 1 → vp_in 0 1024 ∧ ∀ h5, h5 = mSI h3 92 0 v1 → mW G kX12_spreads (d + 1) b 58 [some (.inr (some 47)), none, some (.inl 1), some (.inl 0), none, none, none, none] [] h5 Q))) ∧ (¬ (1024 ≤ v2) → vp_in v2 1024 ∧ ∀ h8, h8 = mSI h 90 v2.toNatClampNeg 0 → vp_in v2 1024 ∧ ∀ h10, h10 = mSI h8 91 v2.toNatClampNeg 0 → mW G kX12_spreads (d + 1) b 2 [some (.inr (some 47)), some (.inl v1), some (.inl (v2 + 1)), none, none, none, none, none] [] h10 Q))) : mW G kX12_spreads (d + 1) b 2 [some (.inr (some 47)), some (.inl v1), some (.inl v2), none, none, none, none, none] [] h Q := by
  refine mw_iload_n (pc' := 3) dX12_spreads_2 rfl rfl ?_
  refine mw_sipush (pc' := 6) (v := 1024) dX12_spreads_3 rfl (by decide) ?_
  refine mw_icmp_ge (pc' := 9) (tgt := 29) dX12_spreads_6 rfl (by decide) (fun c11 => ?_) (fun c11 => ?_)
  · replace K := K.1 c11
    refine mw_iconst (pc' := 30) (v := 0) dX12_spreads_29 rfl (by decide) ?_
    refine mw_istore_n (pc' := 31) dX12_spreads_30 rfl (by decide) ?_
    show mW _ _ _ _ _ [some (.inr (some 47)), some (.inl v1), some (.inl 0), none, none, none, none, none] _ _ _
    refine mw_aload_n (pc' := 32) dX12_spreads_31 rfl rfl ?_
    refine mw_getR (pc' := 35) dX12_spreads_32 rfl flX12_132 rfl (skT_47 hS) ?_
    rw [skR_47_61 hS]
    refine mw_iload_n (pc' := 36) dX12_spreads_35 rfl rfl ?_
    obtain ⟨o1, K⟩ := K
    refine mw_baldL (pc' := 37) dX12_spreads_36 rfl (skT_88 hS) (skL_88 hS) o1 ?_
    refine mw_if_eq (pc' := 40) (tgt := 56) dX12_spreads_37 rfl (by decide) (fun c6 => ?_) (fun c6 => ?_)
    · replace K := K.1 c6
      refine mw_iconst (pc' := 57) (v := 0) dX12_spreads_56 rfl (by decide) ?_
      refine mw_istore_n (pc' := 58) dX12_spreads_57 rfl (by decide) ?_
      show mW _ _ _ _ _ [some (.inr (some 47)), some (.inl v1), some (.inl 0), some (.inl 0), none, none, none, none] _ _ _
      refine mw_weak (ls' := [some (.inr (some 47)), none, some (.inl 0), some (.inl 0), none, none, none, none]) ?_ ?_
      · intro i v hv; match i, hv with
        | 0, hv => exact hv
        | 1, hv => cases hv
        | 2, hv => exact hv
        | 3, hv => exact hv
        | 4, hv => cases hv
        | 5, hv => cases hv
        | 6, hv => cases hv
        | 7, hv => cases hv
        | n + 8, hv => cases hv
      exact K
    · replace K := K.2 c6
      refine mw_aload_n (pc' := 41) dX12_spreads_40 rfl rfl ?_
      refine mw_getR (pc' := 44) dX12_spreads_41 rfl flX12_138 rfl (skT_47 hS) ?_
      rw [skR_47_63 hS]
      refine mw_iload_n (pc' := 45) dX12_spreads_44 rfl rfl ?_
      refine mw_iconst (pc' := 46) (v := 1) dX12_spreads_45 rfl (by decide) ?_
      obtain ⟨o2, K⟩ := K
      refine mw_bastK (pc' := 47) dX12_spreads_46 rfl (skT_90 hS) (skL_90 hS) o2 (by decide) hS (fun h3 eh3 hS => ?_)
      replace K := K h3 eh3
      refine mw_aload_n (pc' := 48) dX12_spreads_47 rfl rfl ?_
      refine mw_getR (pc' := 51) dX12_spreads_48 rfl flX12_144 rfl (skT_47 hS) ?_
      rw [skR_47_65 hS]
      refine mw_iconst (pc' := 52) (v := 0) dX12_spreads_51 rfl (by decide) ?_
      refine mw_iload_n (pc' := 53) dX12_spreads_52 rfl rfl ?_
      obtain ⟨o4, K⟩ := K
      refine mw_iastK (pc' := 54) dX12_spreads_53 rfl (skT_92 hS) (skL_92 hS) o4 hS (fun h5 eh5 hS => ?_)
      replace K := K h5 eh5
      refine mw_iconst (pc' := 55) (v := 1) dX12_spreads_54 rfl (by decide) ?_
      refine mw_istore_n (pc' := 56) dX12_spreads_55 rfl (by decide) ?_
      show mW _ _ _ _ _ [some (.inr (some 47)), some (.inl v1), some (.inl 1), none, none, none, none, none] _ _ _
      refine mw_iconst (pc' := 57) (v := 0) dX12_spreads_56 rfl (by decide) ?_
      refine mw_istore_n (pc' := 58) dX12_spreads_57 rfl (by decide) ?_
      show mW _ _ _ _ _ [some (.inr (some 47)), some (.inl v1), some (.inl 1), some (.inl 0), none, none, none, none] _ _ _
      refine mw_weak (ls' := [some (.inr (some 47)), none, some (.inl 1), some (.inl 0), none, none, none, none]) ?_ ?_
      · intro i v hv; match i, hv with
        | 0, hv => exact hv
        | 1, hv => cases hv
        | 2, hv => exact hv
        | 3, hv => exact hv
        | 4, hv => cases hv
        | 5, hv => cases hv
        | 6, hv => cases hv
        | 7, hv => cases hv
        | n + 8, hv => cases hv
      exact K
  · replace K := K.2 c11
    refine mw_aload_n (pc' := 10) dX12_spreads_9 rfl rfl ?_
    refine mw_getR (pc' := 13) dX12_spreads_10 rfl flX12_138 rfl (skT_47 hS) ?_
    rw [skR_47_63 hS]
    refine mw_iload_n (pc' := 14) dX12_spreads_13 rfl rfl ?_
    refine mw_iconst (pc' := 15) (v := 0) dX12_spreads_14 rfl (by decide) ?_
    obtain ⟨o7, K⟩ := K
    refine mw_bastK (pc' := 16) dX12_spreads_15 rfl (skT_90 hS) (skL_90 hS) o7 (by decide) hS (fun h8 eh8 hS => ?_)
    replace K := K h8 eh8
    refine mw_aload_n (pc' := 17) dX12_spreads_16 rfl rfl ?_
    refine mw_getR (pc' := 20) dX12_spreads_17 rfl flX12_141 rfl (skT_47 hS) ?_
    rw [skR_47_64 hS]
    refine mw_iload_n (pc' := 21) dX12_spreads_20 rfl rfl ?_
    refine mw_iconst (pc' := 22) (v := 0) dX12_spreads_21 rfl (by decide) ?_
    obtain ⟨o9, K⟩ := K
    refine mw_bastK (pc' := 23) dX12_spreads_22 rfl (skT_91 hS) (skL_91 hS) o9 (by decide) hS (fun h10 eh10 hS => ?_)
    replace K := K h10 eh10
    refine mw_iinc (pc' := 26) (v := v2 + 1) dX12_spreads_23 rfl (by decide) rfl rfl ?_
    show mW _ _ _ _ _ [some (.inr (some 47)), some (.inl v1), some (.inl (v2 + 1)), none, none, none, none, none] _ _ _
    refine mw_goto (tgt := 2) dX12_spreads_26 (by decide) ?_
    exact K

set_option maxRecDepth 100000 in
set_option maxHeartbeats 4000000 in
theorem qX12_spreads_58 {G : mG} {d : Nat} {b : Nat × Nat} {h : mH} {Q : Option mV → mH → Prop} (v2 : Int32) (v3 : Int32) (hS : mSk h)
    (K : ((v2 ≤ v3 → Q none h) ∧ (¬ (v2 ≤ v3) → mW G kX12_spreads (d + 1) b 66 [some (.inr (some 47)), none, some (.inl v2), some (.inl v3), some (.inl 0), none, none, none] [] h Q))) : mW G kX12_spreads (d + 1) b 58 [some (.inr (some 47)), none, some (.inl v2), some (.inl v3), none, none, none, none] [] h Q := by
  refine mw_iload_n (pc' := 59) dX12_spreads_58 rfl rfl ?_
  refine mw_iload_n (pc' := 60) dX12_spreads_59 rfl rfl ?_
  refine mw_icmp_ge (pc' := 63) (tgt := 202) dX12_spreads_60 rfl (by decide) (fun c1 => ?_) (fun c1 => ?_)
  · replace K := K.1 c1
    exact mw_ret dX12_spreads_202 rfl K
  · replace K := K.2 c1
    refine mw_iconst (pc' := 64) (v := 0) dX12_spreads_63 rfl (by decide) ?_
    refine mw_istore (pc' := 66) dX12_spreads_64 rfl (by decide) ?_
    show mW _ _ _ _ _ [some (.inr (some 47)), none, some (.inl v2), some (.inl v3), some (.inl 0), none, none, none] _ _ _
    exact K

set_option maxRecDepth 100000 in
set_option maxHeartbeats 4000000 in
theorem qX12_spreads_66 {G : mG} {d : Nat} {b : Nat × Nat} {h : mH} {Q : Option mV → mH → Prop} (v2 : Int32) (v3 : Int32) (v4 : Int32) (hS : mSk h)
    (K : ((4 ≤ v4 → mW G kX12_spreads (d + 1) b 58 [some (.inr (some 47)), none, some (.inl v2), some (.inl (v3 + 1)), none, none, none, none] [] h Q) ∧ (¬ (4 ≤ v4) → vp_in v3 1024 ∧ vp_in v3 1024 ∧ ((¬ (f_X12_isCell ((m_rem (mI h 92 v3.toNatClampNeg) 32) + (f_X12_stepX v4)) (((mI h 92 v3.toNatClampNeg) / 32) + (f_X12_stepY v4))) = 0 → vp_in ((32 * (((mI h 92 v3.toNatClampNeg) / 32) + (f_X12_stepY v4))) + ((m_rem (mI h 92 v3.toNatClampNeg) 32) + (f_X12_stepX v4))) 1024 ∧ ((¬ (mI h 88 ((32 * (((mI h 92 v3.toNatClampNeg) / 32) + (f_X12_stepY v4))) + ((m_rem (mI h 92 v3.toNatClampNeg) 32) + (f_X12_stepX v4))).toNatClampNeg) = 0 → vp_in ((32 * (((mI h 92 v3.toNatClampNeg) / 32) + (f_X12_stepY v4))) + ((m_rem (mI h 92 v3.toNatClampNeg) 32) + (f_X12_stepX v4))) 1024 ∧ (((mI h 88 ((32 * (((mI h 92 v3.toNatClampNeg) / 32) + (f_X12_stepY v4))) + ((m_rem (mI h 92 v3.toNatClampNeg) 32) + (f_X12_stepX v4))).toNatClampNeg) = 0 → mW G kX12_spreads (d + 1) b 66 [some (.inr (some 47)), none, some (.inl v2), some (.inl v3), some (.inl (v4 + 1)), none, none, none] [] h Q) ∧ (¬ (mI h 88 ((32 * (((mI h 92 v3.toNatClampNeg) / 32) + (f_X12_stepY v4))) + ((m_rem (mI h 92 v3.toNatClampNeg) 32) + (f_X12_stepX v4))).toNatClampNeg) = 0 → vp_in ((32 * (((mI h 92 v3.toNatClampNeg) / 32) + (f_X12_stepY v4))) + ((m_rem (mI h 92 v3.toNatClampNeg) 32) + (f_X12_stepX v4))) 1024 ∧ (((mI h 90 ((32 * (((mI h 92 v3.toNatClampNeg) / 32) + (f_X12_stepY v4))) + ((m_rem (mI h 92 v3.toNatClampNeg) 32) + (f_X12_stepX v4))).toNatClampNeg) = 0 → vp_in ((32 * (((mI h 92 v3.toNatClampNeg) / 32) + (f_X12_stepY v4))) + ((m_rem (mI h 92 v3.toNatClampNeg) 32) + (f_X12_stepX v4))) 1024 ∧ ∀ h7, h7 = mSI h 90 ((32 * (((mI h 92 v3.toNatClampNeg) / 32) + (f_X12_stepY v4))) + ((m_rem (mI h 92 v3.toNatClampNeg) 32) + (f_X12_stepX v4))).toNatClampNeg 1 → vp_in v2 1024 ∧ ∀ h9, h9 = mSI h7 92 v2.toNatClampNeg ((32 * (((mI h 92 v3.toNatClampNeg) / 32) + (f_X12_stepY v4))) + ((m_rem (mI h 92 v3.toNatClampNeg) 32) + (f_X12_stepX v4))) → mW G kX12_spreads (d + 1) b 66 [some (.inr (some 47)), none, some (.inl (v2 + 1)), some (.inl v3), some (.inl (v4 + 1)), none, none, none] [] h9 Q) ∧ (¬ (mI h 90 ((32 * (((mI h 92 v3.toNatClampNeg) / 32) + (f_X12_stepY v4))) + ((m_rem (mI h 92 v3.toNatClampNeg) 32) + (f_X12_stepX v4))).toNatClampNeg) = 0 → mW G kX12_spreads (d + 1) b 66 [some (.inr (some 47)), none, some (.inl v2), some (.inl v3), some (.inl (v4 + 1)), none, none, none] [] h Q))))) ∧ ((mI h 88 ((32 * (((mI h 92 v3.toNatClampNeg) / 32) + (f_X12_stepY v4))) + ((m_rem (mI h 92 v3.toNatClampNeg) 32) + (f_X12_stepX v4))).toNatClampNeg) = 0 → vp_in ((32 * (((mI h 92 v3.toNatClampNeg) / 32) + (f_X12_stepY v4))) + ((m_rem (mI h 92 v3.toNatClampNeg) 32) + (f_X12_stepX v4))) 1024 ∧ ∀ h13, h13 = mSI h 91 ((32 * (((mI h 92 v3.toNatClampNeg) / 32) + (f_X12_stepY v4))) + ((m_rem (mI h 92 v3.toNatClampNeg) 32) + (f_X12_stepX v4))).toNatClampNeg 1 → vp_in ((32 * (((mI h 92 v3.toNatClampNeg) / 32) + (f_X12_stepY v4))) + ((m_rem (mI h 92 v3.toNatClampNeg) 32) + (f_X12_stepX v4))) 1024 ∧ (((mI h13 88 ((32 * (((mI h 92 v3.toNatClampNeg) / 32) + (f_X12_stepY v4))) + ((m_rem (mI h 92 v3.toNatClampNeg) 32) + (f_X12_stepX v4))).toNatClampNeg) = 0 → mW G kX12_spreads (d + 1) b 66 [some (.inr (some 47)), none, some (.inl v2), some (.inl v3), some (.inl (v4 + 1)), none, none, none] [] h13 Q) ∧ (¬ (mI h13 88 ((32 * (((mI h 92 v3.toNatClampNeg) / 32) + (f_X12_stepY v4))) + ((m_rem (mI h 92 v3.toNatClampNeg) 32) + (f_X12_stepX v4))).toNatClampNeg) = 0 → vp_in ((32 * (((mI h 92 v3.toNatClampNeg) / 32) + (f_X12_stepY v4))) + ((m_rem (mI h 92 v3.toNatClampNeg) 32) + (f_X12_stepX v4))) 1024 ∧ (((mI h13 90 ((32 * (((mI h 92 v3.toNatClampNeg) / 32) + (f_X12_stepY v4))) + ((m_rem (mI h 92 v3.toNatClampNeg) 32) + (f_X12_stepX v4))).toNatClampNeg) = 0 → vp_in ((32 * (((mI h 92 v3.toNatClampNeg) / 32) + (f_X12_stepY v4))) + ((m_rem (mI h 92 v3.toNatClampNeg) 32) + (f_X12_stepX v4))) 1024 ∧ ∀ h17, h17 = mSI h13 90 ((32 * (((mI h 92 v3.toNatClampNeg) / 32) + (f_X12_stepY v4))) + ((m_rem (mI h 92 v3.toNatClampNeg) 32) + (f_X12_stepX v4))).toNatClampNeg 1 → vp_in v2 1024 ∧ ∀ h19, h19 = mSI h17 92 v2.toNatClampNeg ((32 * (((mI h 92 v3.toNatClampNeg) / 32) + (f_X12_stepY v4))) + ((m_rem (mI h 92 v3.toNatClampNeg) 32) + (f_X12_stepX v4))) → mW G kX12_spreads (d + 1) b 66 [some (.inr (some 47)), none, some (.inl (v2 + 1)), some (.inl v3), some (.inl (v4 + 1)), none, none, none] [] h19 Q) ∧ (¬ (mI h13 90 ((32 * (((mI h 92 v3.toNatClampNeg) / 32) + (f_X12_stepY v4))) + ((m_rem (mI h 92 v3.toNatClampNeg) 32) + (f_X12_stepX v4))).toNatClampNeg) = 0 → mW G kX12_spreads (d + 1) b 66 [some (.inr (some 47)), none, some (.inl v2), some (.inl v3), some (.inl (v4 + 1)), none, none, none] [] h13 Q))))))) ∧ ((f_X12_isCell ((m_rem (mI h 92 v3.toNatClampNeg) 32) + (f_X12_stepX v4)) (((mI h 92 v3.toNatClampNeg) / 32) + (f_X12_stepY v4))) = 0 → mW G kX12_spreads (d + 1) b 66 [some (.inr (some 47)), none, some (.inl v2), some (.inl v3), some (.inl (v4 + 1)), none, none, none] [] h Q))))) : mW G kX12_spreads (d + 1) b 66 [some (.inr (some 47)), none, some (.inl v2), some (.inl v3), some (.inl v4), none, none, none] [] h Q := by
  refine mw_iload (pc' := 68) dX12_spreads_66 rfl rfl ?_
  refine mw_iconst (pc' := 69) (v := 4) dX12_spreads_68 rfl (by decide) ?_
  refine mw_icmp_ge (pc' := 72) (tgt := 196) dX12_spreads_69 rfl (by decide) (fun c24 => ?_) (fun c24 => ?_)
  · replace K := K.1 c24
    refine mw_iinc (pc' := 199) (v := v3 + 1) dX12_spreads_196 rfl (by decide) rfl rfl ?_
    show mW _ _ _ _ _ [some (.inr (some 47)), none, some (.inl v2), some (.inl (v3 + 1)), some (.inl v4), none, none, none] _ _ _
    refine mw_goto (tgt := 58) dX12_spreads_199 (by decide) ?_
    refine mw_weak (ls' := [some (.inr (some 47)), none, some (.inl v2), some (.inl (v3 + 1)), none, none, none, none]) ?_ ?_
    · intro i v hv; match i, hv with
      | 0, hv => exact hv
      | 1, hv => cases hv
      | 2, hv => exact hv
      | 3, hv => exact hv
      | 4, hv => cases hv
      | 5, hv => cases hv
      | 6, hv => cases hv
      | 7, hv => cases hv
      | n + 8, hv => cases hv
    exact K
  · replace K := K.2 c24
    refine mw_aload_n (pc' := 73) dX12_spreads_72 rfl rfl ?_
    refine mw_getR (pc' := 76) dX12_spreads_73 rfl flX12_144 rfl (skT_47 hS) ?_
    rw [skR_47_65 hS]
    refine mw_iload_n (pc' := 77) dX12_spreads_76 rfl rfl ?_
    obtain ⟨o1, K⟩ := K
    refine mw_ialdL (pc' := 78) dX12_spreads_77 rfl (skT_92 hS) (skL_92 hS) o1 ?_
    refine mw_bipush (pc' := 80) (v := 32) dX12_spreads_78 rfl (by decide) ?_
    refine mw_iremM (pc' := 81) dX12_spreads_80 rfl (by decide) ?_
    refine mw_iload (pc' := 83) dX12_spreads_81 rfl rfl ?_
    refine mw_callS (pc' := 86) (b' := (0, 0)) (b1 := b) (av := [.inl v4]) (rest := [.inl (m_rem (mI h 92 v3.toNatClampNeg) 32)]) dX12_spreads_83 rfl lkX12_196 rfl rfl (Nat.le_of_ble_eq_true rfl) ⟨Nat.le_of_eq (Nat.zero_add _), Nat.le_of_eq (Nat.zero_add _)⟩ ?_
    refine pX12_stepX ?_
    refine mw_iadd (pc' := 87) dX12_spreads_86 rfl ?_
    refine mw_istore (pc' := 89) dX12_spreads_87 rfl (by decide) ?_
    show mW _ _ _ _ _ [some (.inr (some 47)), none, some (.inl v2), some (.inl v3), some (.inl v4), some (.inl ((m_rem (mI h 92 v3.toNatClampNeg) 32) + (f_X12_stepX v4))), none, none] _ _ _
    refine mw_aload_n (pc' := 90) dX12_spreads_89 rfl rfl ?_
    refine mw_getR (pc' := 93) dX12_spreads_90 rfl flX12_144 rfl (skT_47 hS) ?_
    rw [skR_47_65 hS]
    refine mw_iload_n (pc' := 94) dX12_spreads_93 rfl rfl ?_
    obtain ⟨o2, K⟩ := K
    refine mw_ialdL (pc' := 95) dX12_spreads_94 rfl (skT_92 hS) (skL_92 hS) o2 ?_
    refine mw_bipush (pc' := 97) (v := 32) dX12_spreads_95 rfl (by decide) ?_
    refine mw_idiv (pc' := 98) dX12_spreads_97 rfl (by decide) ?_
    refine mw_iload (pc' := 100) dX12_spreads_98 rfl rfl ?_
    refine mw_callS (pc' := 103) (b' := (0, 0)) (b1 := b) (av := [.inl v4]) (rest := [.inl ((mI h 92 v3.toNatClampNeg) / 32)]) dX12_spreads_100 rfl lkX12_199 rfl rfl (Nat.le_of_ble_eq_true rfl) ⟨Nat.le_of_eq (Nat.zero_add _), Nat.le_of_eq (Nat.zero_add _)⟩ ?_
    refine pX12_stepY ?_
    refine mw_iadd (pc' := 104) dX12_spreads_103 rfl ?_
    refine mw_istore (pc' := 106) dX12_spreads_104 rfl (by decide) ?_
    show mW _ _ _ _ _ [some (.inr (some 47)), none, some (.inl v2), some (.inl v3), some (.inl v4), some (.inl ((m_rem (mI h 92 v3.toNatClampNeg) 32) + (f_X12_stepX v4))), some (.inl (((mI h 92 v3.toNatClampNeg) / 32) + (f_X12_stepY v4))), none] _ _ _
    refine mw_iload (pc' := 108) dX12_spreads_106 rfl rfl ?_
    refine mw_iload (pc' := 110) dX12_spreads_108 rfl rfl ?_
    refine mw_callS (pc' := 113) (b' := (0, 0)) (b1 := b) (av := [.inl ((m_rem (mI h 92 v3.toNatClampNeg) 32) + (f_X12_stepX v4)), .inl (((mI h 92 v3.toNatClampNeg) / 32) + (f_X12_stepY v4))]) (rest := []) dX12_spreads_110 rfl lkX12_190 rfl rfl (Nat.le_of_ble_eq_true rfl) ⟨Nat.le_of_eq (Nat.zero_add _), Nat.le_of_eq (Nat.zero_add _)⟩ ?_
    refine pX12_isCell ?_
    refine mw_if_ne (pc' := 116) (tgt := 119) dX12_spreads_113 rfl (by decide) (fun c23 => ?_) (fun c23 => ?_)
    · replace K := K.1 c23
      refine mw_bipush (pc' := 121) (v := 32) dX12_spreads_119 rfl (by decide) ?_
      refine mw_iload (pc' := 123) dX12_spreads_121 rfl rfl ?_
      refine mw_imul (pc' := 124) dX12_spreads_123 rfl ?_
      refine mw_iload (pc' := 126) dX12_spreads_124 rfl rfl ?_
      refine mw_iadd (pc' := 127) dX12_spreads_126 rfl ?_
      refine mw_istore (pc' := 129) dX12_spreads_127 rfl (by decide) ?_
      show mW _ _ _ _ _ [some (.inr (some 47)), none, some (.inl v2), some (.inl v3), some (.inl v4), some (.inl ((m_rem (mI h 92 v3.toNatClampNeg) 32) + (f_X12_stepX v4))), some (.inl (((mI h 92 v3.toNatClampNeg) / 32) + (f_X12_stepY v4))), some (.inl ((32 * (((mI h 92 v3.toNatClampNeg) / 32) + (f_X12_stepY v4))) + ((m_rem (mI h 92 v3.toNatClampNeg) 32) + (f_X12_stepX v4))))] _ _ _
      refine mw_aload_n (pc' := 130) dX12_spreads_129 rfl rfl ?_
      refine mw_getR (pc' := 133) dX12_spreads_130 rfl flX12_132 rfl (skT_47 hS) ?_
      rw [skR_47_61 hS]
      refine mw_iload (pc' := 135) dX12_spreads_133 rfl rfl ?_
      obtain ⟨o3, K⟩ := K
      refine mw_baldL (pc' := 136) dX12_spreads_135 rfl (skT_88 hS) (skL_88 hS) o3 ?_
      refine mw_if_ne (pc' := 139) (tgt := 147) dX12_spreads_136 rfl (by decide) (fun c22 => ?_) (fun c22 => ?_)
      · replace K := K.1 c22
        refine mw_aload_n (pc' := 148) dX12_spreads_147 rfl rfl ?_
        refine mw_getR (pc' := 151) dX12_spreads_148 rfl flX12_132 rfl (skT_47 hS) ?_
        rw [skR_47_61 hS]
        refine mw_iload (pc' := 153) dX12_spreads_151 rfl rfl ?_
        obtain ⟨o4, K⟩ := K
        refine mw_baldL (pc' := 154) dX12_spreads_153 rfl (skT_88 hS) (skL_88 hS) o4 ?_
        refine mw_if_eq (pc' := 157) (tgt := 190) dX12_spreads_154 rfl (by decide) (fun c11 => ?_) (fun c11 => ?_)
        · replace K := K.1 c11
          refine mw_iinc (pc' := 193) (v := v4 + 1) dX12_spreads_190 rfl (by decide) rfl rfl ?_
          show mW _ _ _ _ _ [some (.inr (some 47)), none, some (.inl v2), some (.inl v3), some (.inl (v4 + 1)), some (.inl ((m_rem (mI h 92 v3.toNatClampNeg) 32) + (f_X12_stepX v4))), some (.inl (((mI h 92 v3.toNatClampNeg) / 32) + (f_X12_stepY v4))), some (.inl ((32 * (((mI h 92 v3.toNatClampNeg) / 32) + (f_X12_stepY v4))) + ((m_rem (mI h 92 v3.toNatClampNeg) 32) + (f_X12_stepX v4))))] _ _ _
          refine mw_goto (tgt := 66) dX12_spreads_193 (by decide) ?_
          refine mw_weak (ls' := [some (.inr (some 47)), none, some (.inl v2), some (.inl v3), some (.inl (v4 + 1)), none, none, none]) ?_ ?_
          · intro i v hv; match i, hv with
            | 0, hv => exact hv
            | 1, hv => cases hv
            | 2, hv => exact hv
            | 3, hv => exact hv
            | 4, hv => exact hv
            | 5, hv => cases hv
            | 6, hv => cases hv
            | 7, hv => cases hv
            | n + 8, hv => cases hv
          exact K
        · replace K := K.2 c11
          refine mw_aload_n (pc' := 158) dX12_spreads_157 rfl rfl ?_
          refine mw_getR (pc' := 161) dX12_spreads_158 rfl flX12_138 rfl (skT_47 hS) ?_
          rw [skR_47_63 hS]
          refine mw_iload (pc' := 163) dX12_spreads_161 rfl rfl ?_
          obtain ⟨o5, K⟩ := K
          refine mw_baldL (pc' := 164) dX12_spreads_163 rfl (skT_90 hS) (skL_90 hS) o5 ?_
          refine mw_if_eq (pc' := 167) (tgt := 170) dX12_spreads_164 rfl (by decide) (fun c10 => ?_) (fun c10 => ?_)
          · replace K := K.1 c10
            refine mw_aload_n (pc' := 171) dX12_spreads_170 rfl rfl ?_
            refine mw_getR (pc' := 174) dX12_spreads_171 rfl flX12_138 rfl (skT_47 hS) ?_
            rw [skR_47_63 hS]
            refine mw_iload (pc' := 176) dX12_spreads_174 rfl rfl ?_
            refine mw_iconst (pc' := 177) (v := 1) dX12_spreads_176 rfl (by decide) ?_
            obtain ⟨o6, K⟩ := K
            refine mw_bastK (pc' := 178) dX12_spreads_177 rfl (skT_90 hS) (skL_90 hS) o6 (by decide) hS (fun h7 eh7 hS => ?_)
            replace K := K h7 eh7
            refine mw_aload_n (pc' := 179) dX12_spreads_178 rfl rfl ?_
            refine mw_getR (pc' := 182) dX12_spreads_179 rfl flX12_144 rfl (skT_47 hS) ?_
            rw [skR_47_65 hS]
            refine mw_iload_n (pc' := 183) dX12_spreads_182 rfl rfl ?_
            refine mw_iload (pc' := 185) dX12_spreads_183 rfl rfl ?_
            obtain ⟨o8, K⟩ := K
            refine mw_iastK (pc' := 186) dX12_spreads_185 rfl (skT_92 hS) (skL_92 hS) o8 hS (fun h9 eh9 hS => ?_)
            replace K := K h9 eh9
            refine mw_iload_n (pc' := 187) dX12_spreads_186 rfl rfl ?_
            refine mw_iconst (pc' := 188) (v := 1) dX12_spreads_187 rfl (by decide) ?_
            refine mw_iadd (pc' := 189) dX12_spreads_188 rfl ?_
            refine mw_istore_n (pc' := 190) dX12_spreads_189 rfl (by decide) ?_
            show mW _ _ _ _ _ [some (.inr (some 47)), none, some (.inl (v2 + 1)), some (.inl v3), some (.inl v4), some (.inl ((m_rem (mI h 92 v3.toNatClampNeg) 32) + (f_X12_stepX v4))), some (.inl (((mI h 92 v3.toNatClampNeg) / 32) + (f_X12_stepY v4))), some (.inl ((32 * (((mI h 92 v3.toNatClampNeg) / 32) + (f_X12_stepY v4))) + ((m_rem (mI h 92 v3.toNatClampNeg) 32) + (f_X12_stepX v4))))] _ _ _
            refine mw_iinc (pc' := 193) (v := v4 + 1) dX12_spreads_190 rfl (by decide) rfl rfl ?_
            show mW _ _ _ _ _ [some (.inr (some 47)), none, some (.inl (v2 + 1)), some (.inl v3), some (.inl (v4 + 1)), some (.inl ((m_rem (mI h 92 v3.toNatClampNeg) 32) + (f_X12_stepX v4))), some (.inl (((mI h 92 v3.toNatClampNeg) / 32) + (f_X12_stepY v4))), some (.inl ((32 * (((mI h 92 v3.toNatClampNeg) / 32) + (f_X12_stepY v4))) + ((m_rem (mI h 92 v3.toNatClampNeg) 32) + (f_X12_stepX v4))))] _ _ _
            refine mw_goto (tgt := 66) dX12_spreads_193 (by decide) ?_
            refine mw_weak (ls' := [some (.inr (some 47)), none, some (.inl (v2 + 1)), some (.inl v3), some (.inl (v4 + 1)), none, none, none]) ?_ ?_
            · intro i v hv; match i, hv with
              | 0, hv => exact hv
              | 1, hv => cases hv
              | 2, hv => exact hv
              | 3, hv => exact hv
              | 4, hv => exact hv
              | 5, hv => cases hv
              | 6, hv => cases hv
              | 7, hv => cases hv
              | n + 8, hv => cases hv
            exact K
          · replace K := K.2 c10
            refine mw_goto (tgt := 190) dX12_spreads_167 (by decide) ?_
            refine mw_iinc (pc' := 193) (v := v4 + 1) dX12_spreads_190 rfl (by decide) rfl rfl ?_
            show mW _ _ _ _ _ [some (.inr (some 47)), none, some (.inl v2), some (.inl v3), some (.inl (v4 + 1)), some (.inl ((m_rem (mI h 92 v3.toNatClampNeg) 32) + (f_X12_stepX v4))), some (.inl (((mI h 92 v3.toNatClampNeg) / 32) + (f_X12_stepY v4))), some (.inl ((32 * (((mI h 92 v3.toNatClampNeg) / 32) + (f_X12_stepY v4))) + ((m_rem (mI h 92 v3.toNatClampNeg) 32) + (f_X12_stepX v4))))] _ _ _
            refine mw_goto (tgt := 66) dX12_spreads_193 (by decide) ?_
            refine mw_weak (ls' := [some (.inr (some 47)), none, some (.inl v2), some (.inl v3), some (.inl (v4 + 1)), none, none, none]) ?_ ?_
            · intro i v hv; match i, hv with
              | 0, hv => exact hv
              | 1, hv => cases hv
              | 2, hv => exact hv
              | 3, hv => exact hv
              | 4, hv => exact hv
              | 5, hv => cases hv
              | 6, hv => cases hv
              | 7, hv => cases hv
              | n + 8, hv => cases hv
            exact K
      · replace K := K.2 c22
        refine mw_aload_n (pc' := 140) dX12_spreads_139 rfl rfl ?_
        refine mw_getR (pc' := 143) dX12_spreads_140 rfl flX12_141 rfl (skT_47 hS) ?_
        rw [skR_47_64 hS]
        refine mw_iload (pc' := 145) dX12_spreads_143 rfl rfl ?_
        refine mw_iconst (pc' := 146) (v := 1) dX12_spreads_145 rfl (by decide) ?_
        obtain ⟨o12, K⟩ := K
        refine mw_bastK (pc' := 147) dX12_spreads_146 rfl (skT_91 hS) (skL_91 hS) o12 (by decide) hS (fun h13 eh13 hS => ?_)
        replace K := K h13 eh13
        refine mw_aload_n (pc' := 148) dX12_spreads_147 rfl rfl ?_
        refine mw_getR (pc' := 151) dX12_spreads_148 rfl flX12_132 rfl (skT_47 hS) ?_
        rw [skR_47_61 hS]
        refine mw_iload (pc' := 153) dX12_spreads_151 rfl rfl ?_
        obtain ⟨o14, K⟩ := K
        refine mw_baldL (pc' := 154) dX12_spreads_153 rfl (skT_88 hS) (skL_88 hS) o14 ?_
        refine mw_if_eq (pc' := 157) (tgt := 190) dX12_spreads_154 rfl (by decide) (fun c21 => ?_) (fun c21 => ?_)
        · replace K := K.1 c21
          refine mw_iinc (pc' := 193) (v := v4 + 1) dX12_spreads_190 rfl (by decide) rfl rfl ?_
          show mW _ _ _ _ _ [some (.inr (some 47)), none, some (.inl v2), some (.inl v3), some (.inl (v4 + 1)), some (.inl ((m_rem (mI h 92 v3.toNatClampNeg) 32) + (f_X12_stepX v4))), some (.inl (((mI h 92 v3.toNatClampNeg) / 32) + (f_X12_stepY v4))), some (.inl ((32 * (((mI h 92 v3.toNatClampNeg) / 32) + (f_X12_stepY v4))) + ((m_rem (mI h 92 v3.toNatClampNeg) 32) + (f_X12_stepX v4))))] _ _ _
          refine mw_goto (tgt := 66) dX12_spreads_193 (by decide) ?_
          refine mw_weak (ls' := [some (.inr (some 47)), none, some (.inl v2), some (.inl v3), some (.inl (v4 + 1)), none, none, none]) ?_ ?_
          · intro i v hv; match i, hv with
            | 0, hv => exact hv
            | 1, hv => cases hv
            | 2, hv => exact hv
            | 3, hv => exact hv
            | 4, hv => exact hv
            | 5, hv => cases hv
            | 6, hv => cases hv
            | 7, hv => cases hv
            | n + 8, hv => cases hv
          exact K
        · replace K := K.2 c21
          refine mw_aload_n (pc' := 158) dX12_spreads_157 rfl rfl ?_
          refine mw_getR (pc' := 161) dX12_spreads_158 rfl flX12_138 rfl (skT_47 hS) ?_
          rw [skR_47_63 hS]
          refine mw_iload (pc' := 163) dX12_spreads_161 rfl rfl ?_
          obtain ⟨o15, K⟩ := K
          refine mw_baldL (pc' := 164) dX12_spreads_163 rfl (skT_90 hS) (skL_90 hS) o15 ?_
          refine mw_if_eq (pc' := 167) (tgt := 170) dX12_spreads_164 rfl (by decide) (fun c20 => ?_) (fun c20 => ?_)
          · replace K := K.1 c20
            refine mw_aload_n (pc' := 171) dX12_spreads_170 rfl rfl ?_
            refine mw_getR (pc' := 174) dX12_spreads_171 rfl flX12_138 rfl (skT_47 hS) ?_
            rw [skR_47_63 hS]
            refine mw_iload (pc' := 176) dX12_spreads_174 rfl rfl ?_
            refine mw_iconst (pc' := 177) (v := 1) dX12_spreads_176 rfl (by decide) ?_
            obtain ⟨o16, K⟩ := K
            refine mw_bastK (pc' := 178) dX12_spreads_177 rfl (skT_90 hS) (skL_90 hS) o16 (by decide) hS (fun h17 eh17 hS => ?_)
            replace K := K h17 eh17
            refine mw_aload_n (pc' := 179) dX12_spreads_178 rfl rfl ?_
            refine mw_getR (pc' := 182) dX12_spreads_179 rfl flX12_144 rfl (skT_47 hS) ?_
            rw [skR_47_65 hS]
            refine mw_iload_n (pc' := 183) dX12_spreads_182 rfl rfl ?_
            refine mw_iload (pc' := 185) dX12_spreads_183 rfl rfl ?_
            obtain ⟨o18, K⟩ := K
            refine mw_iastK (pc' := 186) dX12_spreads_185 rfl (skT_92 hS) (skL_92 hS) o18 hS (fun h19 eh19 hS => ?_)
            replace K := K h19 eh19
            refine mw_iload_n (pc' := 187) dX12_spreads_186 rfl rfl ?_
            refine mw_iconst (pc' := 188) (v := 1) dX12_spreads_187 rfl (by decide) ?_
            refine mw_iadd (pc' := 189) dX12_spreads_188 rfl ?_
            refine mw_istore_n (pc' := 190) dX12_spreads_189 rfl (by decide) ?_
            show mW _ _ _ _ _ [some (.inr (some 47)), none, some (.inl (v2 + 1)), some (.inl v3), some (.inl v4), some (.inl ((m_rem (mI h 92 v3.toNatClampNeg) 32) + (f_X12_stepX v4))), some (.inl (((mI h 92 v3.toNatClampNeg) / 32) + (f_X12_stepY v4))), some (.inl ((32 * (((mI h 92 v3.toNatClampNeg) / 32) + (f_X12_stepY v4))) + ((m_rem (mI h 92 v3.toNatClampNeg) 32) + (f_X12_stepX v4))))] _ _ _
            refine mw_iinc (pc' := 193) (v := v4 + 1) dX12_spreads_190 rfl (by decide) rfl rfl ?_
            show mW _ _ _ _ _ [some (.inr (some 47)), none, some (.inl (v2 + 1)), some (.inl v3), some (.inl (v4 + 1)), some (.inl ((m_rem (mI h 92 v3.toNatClampNeg) 32) + (f_X12_stepX v4))), some (.inl (((mI h 92 v3.toNatClampNeg) / 32) + (f_X12_stepY v4))), some (.inl ((32 * (((mI h 92 v3.toNatClampNeg) / 32) + (f_X12_stepY v4))) + ((m_rem (mI h 92 v3.toNatClampNeg) 32) + (f_X12_stepX v4))))] _ _ _
            refine mw_goto (tgt := 66) dX12_spreads_193 (by decide) ?_
            refine mw_weak (ls' := [some (.inr (some 47)), none, some (.inl (v2 + 1)), some (.inl v3), some (.inl (v4 + 1)), none, none, none]) ?_ ?_
            · intro i v hv; match i, hv with
              | 0, hv => exact hv
              | 1, hv => cases hv
              | 2, hv => exact hv
              | 3, hv => exact hv
              | 4, hv => exact hv
              | 5, hv => cases hv
              | 6, hv => cases hv
              | 7, hv => cases hv
              | n + 8, hv => cases hv
            exact K
          · replace K := K.2 c20
            refine mw_goto (tgt := 190) dX12_spreads_167 (by decide) ?_
            refine mw_iinc (pc' := 193) (v := v4 + 1) dX12_spreads_190 rfl (by decide) rfl rfl ?_
            show mW _ _ _ _ _ [some (.inr (some 47)), none, some (.inl v2), some (.inl v3), some (.inl (v4 + 1)), some (.inl ((m_rem (mI h 92 v3.toNatClampNeg) 32) + (f_X12_stepX v4))), some (.inl (((mI h 92 v3.toNatClampNeg) / 32) + (f_X12_stepY v4))), some (.inl ((32 * (((mI h 92 v3.toNatClampNeg) / 32) + (f_X12_stepY v4))) + ((m_rem (mI h 92 v3.toNatClampNeg) 32) + (f_X12_stepX v4))))] _ _ _
            refine mw_goto (tgt := 66) dX12_spreads_193 (by decide) ?_
            refine mw_weak (ls' := [some (.inr (some 47)), none, some (.inl v2), some (.inl v3), some (.inl (v4 + 1)), none, none, none]) ?_ ?_
            · intro i v hv; match i, hv with
              | 0, hv => exact hv
              | 1, hv => cases hv
              | 2, hv => exact hv
              | 3, hv => exact hv
              | 4, hv => exact hv
              | 5, hv => cases hv
              | 6, hv => cases hv
              | 7, hv => cases hv
              | n + 8, hv => cases hv
            exact K
    · replace K := K.2 c23
      refine mw_goto (tgt := 190) dX12_spreads_116 (by decide) ?_
      refine mw_iinc (pc' := 193) (v := v4 + 1) dX12_spreads_190 rfl (by decide) rfl rfl ?_
      show mW _ _ _ _ _ [some (.inr (some 47)), none, some (.inl v2), some (.inl v3), some (.inl (v4 + 1)), some (.inl ((m_rem (mI h 92 v3.toNatClampNeg) 32) + (f_X12_stepX v4))), some (.inl (((mI h 92 v3.toNatClampNeg) / 32) + (f_X12_stepY v4))), none] _ _ _
      refine mw_goto (tgt := 66) dX12_spreads_193 (by decide) ?_
      refine mw_weak (ls' := [some (.inr (some 47)), none, some (.inl v2), some (.inl v3), some (.inl (v4 + 1)), none, none, none]) ?_ ?_
      · intro i v hv; match i, hv with
        | 0, hv => exact hv
        | 1, hv => cases hv
        | 2, hv => exact hv
        | 3, hv => exact hv
        | 4, hv => exact hv
        | 5, hv => cases hv
        | 6, hv => cases hv
        | 7, hv => cases hv
        | n + 8, hv => cases hv
      exact K

set_option maxRecDepth 100000 in
set_option maxHeartbeats 4000000 in
theorem qX12_pool {G : mG} {d : Nat} {b : Nat × Nat} {h : mH} {Q : Option mV → mH → Prop} (v1 : Int32) (v2 : Int32) (v3 : Int32) (hS : mSk h)
    (K : (((f_X12_isCell v1 v2) = 0 → Q (some (.inl (-1))) h) ∧ (¬ (f_X12_isCell v1 v2) = 0 → ((¬ (f_X12_in v3 0 2) = 0 → mC G kX12_laysSure (d + 8) (0, 0) [.inr (some 47)] h (fun r h1 => ∃ x2, r = some (.inl x2) ∧ mSk h1 ∧ ((¬ x2 = 0 → mC G kX12_spreads (d + 8) (0, 0) [.inr (some 47), .inl ((32 * v2) + v1)] h1 (fun r h3 => r = none ∧ mSk h3 ∧ mW G kX12_pool (d + 9) b 45 [some (.inr (some 47)), none, none, some (.inl v3), some (.inl 0), some (.inl 0)] [] h3 Q)) ∧ (x2 = 0 → Q (some (.inl (-2))) h1)))) ∧ ((f_X12_in v3 0 2) = 0 → Q (some (.inl (-1))) h))))) : mC G kX12_pool (d + 9) b [.inr (some 47), .inl v1, .inl v2, .inl v3] h Q := by
  refine mC_in rfl (Nat.le_of_ble_eq_true rfl) ?_
  show mW _ _ _ _ _ [some (.inr (some 47)), some (.inl v1), some (.inl v2), some (.inl v3), none, none] _ _ _
  refine mw_iload_n (pc' := 1) dX12_pool_0 rfl rfl ?_
  refine mw_iload_n (pc' := 2) dX12_pool_1 rfl rfl ?_
  refine mw_callS (pc' := 5) (b' := (0, 0)) (b1 := b) (av := [.inl v1, .inl v2]) (rest := []) dX12_pool_2 rfl lkX12_190 rfl rfl (Nat.le_of_ble_eq_true rfl) ⟨Nat.le_of_eq (Nat.zero_add _), Nat.le_of_eq (Nat.zero_add _)⟩ ?_
  refine pX12_isCell ?_
  refine mw_if_eq (pc' := 8) (tgt := 17) dX12_pool_5 rfl (by decide) (fun c6 => ?_) (fun c6 => ?_)
  · replace K := K.1 c6
    refine mw_iconst (pc' := 18) (v := (-1)) dX12_pool_17 rfl (by decide) ?_
    exact mw_iret dX12_pool_18 rfl rfl K
  · replace K := K.2 c6
    refine mw_iload_n (pc' := 9) dX12_pool_8 rfl rfl ?_
    refine mw_iconst (pc' := 10) (v := 0) dX12_pool_9 rfl (by decide) ?_
    refine mw_iconst (pc' := 11) (v := 2) dX12_pool_10 rfl (by decide) ?_
    refine mw_callS (pc' := 14) (b' := (0, 0)) (b1 := b) (av := [.inl v3, .inl 0, .inl 2]) (rest := []) dX12_pool_11 rfl lkX12_173 rfl rfl (Nat.le_of_ble_eq_true rfl) ⟨Nat.le_of_eq (Nat.zero_add _), Nat.le_of_eq (Nat.zero_add _)⟩ ?_
    refine pX12_in ?_
    refine mw_if_ne (pc' := 17) (tgt := 19) dX12_pool_14 rfl (by decide) (fun c5 => ?_) (fun c5 => ?_)
    · replace K := K.1 c5
      refine mw_aload_n (pc' := 20) dX12_pool_19 rfl rfl ?_
      refine mw_callV (pc' := 23) (b' := (0, 0)) (b1 := b) (av := []) (rest := []) dX12_pool_20 rfl lkX12_462 rfl rfl (Nat.le_of_ble_eq_true rfl) ⟨Nat.le_of_eq (Nat.zero_add _), Nat.le_of_eq (Nat.zero_add _)⟩ (skT_47 hS) ?_
      refine mC_mono (fun r h1 hr => ?_) K
      obtain ⟨x2, rfl, hS, K⟩ := hr
      show mW _ _ _ _ _ _ [.inl x2] _ _
      refine mw_if_ne (pc' := 26) (tgt := 29) dX12_pool_23 rfl (by decide) (fun c4 => ?_) (fun c4 => ?_)
      · replace K := K.1 c4
        refine mw_aload_n (pc' := 30) dX12_pool_29 rfl rfl ?_
        refine mw_bipush (pc' := 32) (v := 32) dX12_pool_30 rfl (by decide) ?_
        refine mw_iload_n (pc' := 33) dX12_pool_32 rfl rfl ?_
        refine mw_imul (pc' := 34) dX12_pool_33 rfl ?_
        refine mw_iload_n (pc' := 35) dX12_pool_34 rfl rfl ?_
        refine mw_iadd (pc' := 36) dX12_pool_35 rfl ?_
        refine mw_callV (pc' := 39) (b' := (0, 0)) (b1 := b) (av := [.inl ((32 * v2) + v1)]) (rest := []) dX12_pool_36 rfl lkX12_471 rfl rfl (Nat.le_of_ble_eq_true rfl) ⟨Nat.le_of_eq (Nat.zero_add _), Nat.le_of_eq (Nat.zero_add _)⟩ (skT_47 hS) ?_
        refine mC_mono (fun r h3 hr => ?_) K
        obtain ⟨rfl, hS, K⟩ := hr
        show mW _ _ _ _ _ _ [] _ _
        refine mw_iconst (pc' := 40) (v := 0) dX12_pool_39 rfl (by decide) ?_
        refine mw_istore (pc' := 42) dX12_pool_40 rfl (by decide) ?_
        show mW _ _ _ _ _ [some (.inr (some 47)), some (.inl v1), some (.inl v2), some (.inl v3), some (.inl 0), none] _ _ _
        refine mw_iconst (pc' := 43) (v := 0) dX12_pool_42 rfl (by decide) ?_
        refine mw_istore (pc' := 45) dX12_pool_43 rfl (by decide) ?_
        show mW _ _ _ _ _ [some (.inr (some 47)), some (.inl v1), some (.inl v2), some (.inl v3), some (.inl 0), some (.inl 0)] _ _ _
        refine mw_weak (ls' := [some (.inr (some 47)), none, none, some (.inl v3), some (.inl 0), some (.inl 0)]) ?_ ?_
        · intro i v hv; match i, hv with
          | 0, hv => exact hv
          | 1, hv => cases hv
          | 2, hv => cases hv
          | 3, hv => exact hv
          | 4, hv => exact hv
          | 5, hv => exact hv
          | n + 6, hv => cases hv
        exact K
      · replace K := K.2 c4
        refine mw_bipush (pc' := 28) (v := (-2)) dX12_pool_26 rfl (by decide) ?_
        exact mw_iret dX12_pool_28 rfl rfl K
    · replace K := K.2 c5
      refine mw_iconst (pc' := 18) (v := (-1)) dX12_pool_17 rfl (by decide) ?_
      exact mw_iret dX12_pool_18 rfl rfl K

set_option maxRecDepth 100000 in
set_option maxHeartbeats 4000000 in
theorem qX12_pool_45 {G : mG} {d : Nat} {b : Nat × Nat} {h : mH} {Q : Option mV → mH → Prop} (v3 : Int32) (v4 : Int32) (v5 : Int32) (hS : mSk h)
    (K : ((1024 ≤ v5 → Q (some (.inl v4)) h) ∧ (¬ (1024 ≤ v5) → ((¬ v3 = 0 → vp_in v5 1024 ∧ (((mI h 91 v5.toNatClampNeg) = 0 → mW G kX12_pool (d + 9) b 45 [some (.inr (some 47)), none, none, some (.inl v3), some (.inl (v4 + 0)), some (.inl (v5 + 1))] [] h Q) ∧ (¬ (mI h 91 v5.toNatClampNeg) = 0 → ((v3 = 1 → mW G kX12_pool (d + 9) b 45 [some (.inr (some 47)), none, none, some (.inl v3), some (.inl (v4 + 1)), some (.inl (v5 + 1))] [] h Q) ∧ (¬ v3 = 1 → mC G kX12_lowest (d + 8) (0, 0) [.inr (some 47), .inl v5, .inl 0] h (fun r h2 => ∃ x3, r = some (.inl x3) ∧ mSk h2 ∧ ∀ w4 : Int32, w4 = (if x3 = (-1) then 0 else 1) → mW G kX12_pool (d + 9) b 45 [some (.inr (some 47)), none, none, some (.inl v3), some (.inl (v4 + w4)), some (.inl (v5 + 1))] [] h2 Q)))))) ∧ (v3 = 0 → vp_in v5 1024 ∧ ∀ w10 : Int32, w10 = (if (mI h 90 v5.toNatClampNeg) = 0 then 0 else 1) → mW G kX12_pool (d + 9) b 45 [some (.inr (some 47)), none, none, some (.inl v3), some (.inl (v4 + w10)), some (.inl (v5 + 1))] [] h Q))))) : mW G kX12_pool (d + 9) b 45 [some (.inr (some 47)), none, none, some (.inl v3), some (.inl v4), some (.inl v5)] [] h Q := by
  refine mw_iload (pc' := 47) dX12_pool_45 rfl rfl ?_
  refine mw_sipush (pc' := 50) (v := 1024) dX12_pool_47 rfl (by decide) ?_
  refine mw_icmp_ge (pc' := 53) (tgt := 112) dX12_pool_50 rfl (by decide) (fun c14 => ?_) (fun c14 => ?_)
  · replace K := K.1 c14
    refine mw_iload (pc' := 114) dX12_pool_112 rfl rfl ?_
    exact mw_iret dX12_pool_114 rfl rfl K
  · replace K := K.2 c14
    refine mw_iload (pc' := 55) dX12_pool_53 rfl rfl ?_
    refine mw_iload_n (pc' := 56) dX12_pool_55 rfl rfl ?_
    refine mw_if_ne (pc' := 59) (tgt := 72) dX12_pool_56 rfl (by decide) (fun c13 => ?_) (fun c13 => ?_)
    · replace K := K.1 c13
      refine mw_aload_n (pc' := 73) dX12_pool_72 rfl rfl ?_
      refine mw_getR (pc' := 76) dX12_pool_73 rfl flX12_141 rfl (skT_47 hS) ?_
      rw [skR_47_64 hS]
      refine mw_iload (pc' := 78) dX12_pool_76 rfl rfl ?_
      obtain ⟨o1, K⟩ := K
      refine mw_baldL (pc' := 79) dX12_pool_78 rfl (skT_91 hS) (skL_91 hS) o1 ?_
      refine mw_if_eq (pc' := 82) (tgt := 102) dX12_pool_79 rfl (by decide) (fun c8 => ?_) (fun c8 => ?_)
      · replace K := K.1 c8
        refine mw_iconst (pc' := 103) (v := 0) dX12_pool_102 rfl (by decide) ?_
        refine mw_iadd (pc' := 104) dX12_pool_103 rfl ?_
        refine mw_istore (pc' := 106) dX12_pool_104 rfl (by decide) ?_
        show mW _ _ _ _ _ [some (.inr (some 47)), none, none, some (.inl v3), some (.inl (v4 + 0)), some (.inl v5)] _ _ _
        refine mw_iinc (pc' := 109) (v := v5 + 1) dX12_pool_106 rfl (by decide) rfl rfl ?_
        show mW _ _ _ _ _ [some (.inr (some 47)), none, none, some (.inl v3), some (.inl (v4 + 0)), some (.inl (v5 + 1))] _ _ _
        refine mw_goto (tgt := 45) dX12_pool_109 (by decide) ?_
        exact K
      · replace K := K.2 c8
        refine mw_iload_n (pc' := 83) dX12_pool_82 rfl rfl ?_
        refine mw_iconst (pc' := 84) (v := 1) dX12_pool_83 rfl (by decide) ?_
        refine mw_icmp_eq (pc' := 87) (tgt := 98) dX12_pool_84 rfl (by decide) (fun c7 => ?_) (fun c7 => ?_)
        · replace K := K.1 c7
          refine mw_iconst (pc' := 99) (v := 1) dX12_pool_98 rfl (by decide) ?_
          refine mw_goto (tgt := 103) dX12_pool_99 (by decide) ?_
          refine mw_iadd (pc' := 104) dX12_pool_103 rfl ?_
          refine mw_istore (pc' := 106) dX12_pool_104 rfl (by decide) ?_
          show mW _ _ _ _ _ [some (.inr (some 47)), none, none, some (.inl v3), some (.inl (v4 + 1)), some (.inl v5)] _ _ _
          refine mw_iinc (pc' := 109) (v := v5 + 1) dX12_pool_106 rfl (by decide) rfl rfl ?_
          show mW _ _ _ _ _ [some (.inr (some 47)), none, none, some (.inl v3), some (.inl (v4 + 1)), some (.inl (v5 + 1))] _ _ _
          refine mw_goto (tgt := 45) dX12_pool_109 (by decide) ?_
          exact K
        · replace K := K.2 c7
          refine mw_aload_n (pc' := 88) dX12_pool_87 rfl rfl ?_
          refine mw_iload (pc' := 90) dX12_pool_88 rfl rfl ?_
          refine mw_iconst (pc' := 91) (v := 0) dX12_pool_90 rfl (by decide) ?_
          refine mw_callV (pc' := 94) (b' := (0, 0)) (b1 := b) (av := [.inl v5, .inl 0]) (rest := [.inl v4]) dX12_pool_91 rfl lkX12_406 rfl rfl (Nat.le_of_ble_eq_true rfl) ⟨Nat.le_of_eq (Nat.zero_add _), Nat.le_of_eq (Nat.zero_add _)⟩ (skT_47 hS) ?_
          refine mC_mono (fun r h2 hr => ?_) K
          obtain ⟨x3, rfl, hS, K⟩ := hr
          show mW _ _ _ _ _ _ [.inl x3, .inl v4] _ _
          refine mw_iconst (pc' := 95) (v := (-1)) dX12_pool_94 rfl (by decide) ?_
          have J5 : ∀ w4 : Int32, w4 = (if x3 = (-1) then 0 else 1) → mW G kX12_pool (d + 9) b 103 [some (.inr (some 47)), none, none, some (.inl v3), some (.inl v4), some (.inl v5)] ([.inl w4, .inl v4]) h2 Q := by
            intro w4 ew4
            replace K := K w4 ew4
            refine mw_iadd (pc' := 104) dX12_pool_103 rfl ?_
            refine mw_istore (pc' := 106) dX12_pool_104 rfl (by decide) ?_
            show mW _ _ _ _ _ [some (.inr (some 47)), none, none, some (.inl v3), some (.inl (v4 + w4)), some (.inl v5)] _ _ _
            refine mw_iinc (pc' := 109) (v := v5 + 1) dX12_pool_106 rfl (by decide) rfl rfl ?_
            show mW _ _ _ _ _ [some (.inr (some 47)), none, none, some (.inl v3), some (.inl (v4 + w4)), some (.inl (v5 + 1))] _ _ _
            refine mw_goto (tgt := 45) dX12_pool_109 (by decide) ?_
            exact K
          refine mw_icmp_eq (pc' := 98) (tgt := 102) dX12_pool_95 rfl (by decide) (fun c6 => ?_) (fun c6 => ?_)
          · refine mw_iconst (pc' := 103) (v := 0) dX12_pool_102 rfl (by decide) ?_
            exact J5 _ (by rw [if_pos c6])
          · refine mw_iconst (pc' := 99) (v := 1) dX12_pool_98 rfl (by decide) ?_
            refine mw_goto (tgt := 103) dX12_pool_99 (by decide) ?_
            exact J5 _ (by rw [if_neg c6])
    · replace K := K.2 c13
      refine mw_aload_n (pc' := 60) dX12_pool_59 rfl rfl ?_
      refine mw_getR (pc' := 63) dX12_pool_60 rfl flX12_138 rfl (skT_47 hS) ?_
      rw [skR_47_63 hS]
      refine mw_iload (pc' := 65) dX12_pool_63 rfl rfl ?_
      obtain ⟨o9, K⟩ := K
      refine mw_baldL (pc' := 66) dX12_pool_65 rfl (skT_90 hS) (skL_90 hS) o9 ?_
      have J11 : ∀ w10 : Int32, w10 = (if (mI h 90 v5.toNatClampNeg) = 0 then 0 else 1) → mW G kX12_pool (d + 9) b 103 [some (.inr (some 47)), none, none, some (.inl v3), some (.inl v4), some (.inl v5)] ([.inl w10, .inl v4]) h Q := by
        intro w10 ew10
        replace K := K w10 ew10
        refine mw_iadd (pc' := 104) dX12_pool_103 rfl ?_
        refine mw_istore (pc' := 106) dX12_pool_104 rfl (by decide) ?_
        show mW _ _ _ _ _ [some (.inr (some 47)), none, none, some (.inl v3), some (.inl (v4 + w10)), some (.inl v5)] _ _ _
        refine mw_iinc (pc' := 109) (v := v5 + 1) dX12_pool_106 rfl (by decide) rfl rfl ?_
        show mW _ _ _ _ _ [some (.inr (some 47)), none, none, some (.inl v3), some (.inl (v4 + w10)), some (.inl (v5 + 1))] _ _ _
        refine mw_goto (tgt := 45) dX12_pool_109 (by decide) ?_
        exact K
      refine mw_if_eq (pc' := 69) (tgt := 102) dX12_pool_66 rfl (by decide) (fun c12 => ?_) (fun c12 => ?_)
      · refine mw_iconst (pc' := 103) (v := 0) dX12_pool_102 rfl (by decide) ?_
        exact J11 _ (by rw [if_pos c12])
      · refine mw_goto (tgt := 98) dX12_pool_69 (by decide) ?_
        refine mw_iconst (pc' := 99) (v := 1) dX12_pool_98 rfl (by decide) ?_
        refine mw_goto (tgt := 103) dX12_pool_99 (by decide) ?_
        exact J11 _ (by rw [if_neg c12])

set_option maxRecDepth 100000 in
set_option maxHeartbeats 4000000 in
theorem qX12_tapeNumber {G : mG} {d : Nat} {b : Nat × Nat} {h : mH} {Q : Option mV → mH → Prop} (v1 : Int32) (hS : mSk h)
    (K : mW G kX12_tapeNumber d b 6 [some (.inr (some 47)), some (.inl v1), some (.inl 0), some (.inl (4 * v1))] [] h Q) : mC G kX12_tapeNumber d b [.inr (some 47), .inl v1] h Q := by
  refine mC_in rfl (Nat.le_of_ble_eq_true rfl) ?_
  show mW _ _ _ _ _ [some (.inr (some 47)), some (.inl v1), none, none] _ _ _
  refine mw_iconst (pc' := 1) (v := 0) dX12_tapeNumber_0 rfl (by decide) ?_
  refine mw_istore_n (pc' := 2) dX12_tapeNumber_1 rfl (by decide) ?_
  show mW _ _ _ _ _ [some (.inr (some 47)), some (.inl v1), some (.inl 0), none] _ _ _
  refine mw_iconst (pc' := 3) (v := 4) dX12_tapeNumber_2 rfl (by decide) ?_
  refine mw_iload_n (pc' := 4) dX12_tapeNumber_3 rfl rfl ?_
  refine mw_imul (pc' := 5) dX12_tapeNumber_4 rfl ?_
  refine mw_istore_n (pc' := 6) dX12_tapeNumber_5 rfl (by decide) ?_
  show mW _ _ _ _ _ [some (.inr (some 47)), some (.inl v1), some (.inl 0), some (.inl (4 * v1))] _ _ _
  exact K

set_option maxRecDepth 100000 in
set_option maxHeartbeats 4000000 in
theorem qX12_tapeNumber_6 {G : mG} {d : Nat} {b : Nat × Nat} {h : mH} {Q : Option mV → mH → Prop} (v1 : Int32) (v2 : Int32) (v3 : Int32) (hS : mSk h)
    (K : ((((4 * v1) + 4) ≤ v3 → Q (some (.inl v2)) h) ∧ (¬ (((4 * v1) + 4) ≤ v3) → vp_in v3 220 ∧ mW G kX12_tapeNumber d b 6 [some (.inr (some 47)), some (.inl v1), some (.inl ((m_shl v2 8) ||| ((mI h 57 v3.toNatClampNeg) &&& 255))), some (.inl (v3 + 1))] [] h Q))) : mW G kX12_tapeNumber d b 6 [some (.inr (some 47)), some (.inl v1), some (.inl v2), some (.inl v3)] [] h Q := by
  refine mw_iload_n (pc' := 7) dX12_tapeNumber_6 rfl rfl ?_
  refine mw_iconst (pc' := 8) (v := 4) dX12_tapeNumber_7 rfl (by decide) ?_
  refine mw_iload_n (pc' := 9) dX12_tapeNumber_8 rfl rfl ?_
  refine mw_imul (pc' := 10) dX12_tapeNumber_9 rfl ?_
  refine mw_iconst (pc' := 11) (v := 4) dX12_tapeNumber_10 rfl (by decide) ?_
  refine mw_iadd (pc' := 12) dX12_tapeNumber_11 rfl ?_
  refine mw_icmp_ge (pc' := 15) (tgt := 37) dX12_tapeNumber_12 rfl (by decide) (fun c2 => ?_) (fun c2 => ?_)
  · replace K := K.1 c2
    refine mw_iload_n (pc' := 38) dX12_tapeNumber_37 rfl rfl ?_
    exact mw_iret dX12_tapeNumber_38 rfl rfl K
  · replace K := K.2 c2
    refine mw_iload_n (pc' := 16) dX12_tapeNumber_15 rfl rfl ?_
    refine mw_bipush (pc' := 18) (v := 8) dX12_tapeNumber_16 rfl (by decide) ?_
    refine mw_ishlM (pc' := 19) dX12_tapeNumber_18 rfl ?_
    refine mw_aload_n (pc' := 20) dX12_tapeNumber_19 rfl rfl ?_
    refine mw_getR (pc' := 23) dX12_tapeNumber_20 rfl flX12_38 rfl (skT_47 hS) ?_
    rw [skR_47_11 hS]
    refine mw_iload_n (pc' := 24) dX12_tapeNumber_23 rfl rfl ?_
    obtain ⟨o1, K⟩ := K
    refine mw_yaldL (pc' := 25) dX12_tapeNumber_24 rfl (skT_57 hS) (skL_57 hS) o1 ?_
    refine mw_sipush (pc' := 28) (v := 255) dX12_tapeNumber_25 rfl (by decide) ?_
    refine mw_iand (pc' := 29) dX12_tapeNumber_28 rfl ?_
    refine mw_ior (pc' := 30) dX12_tapeNumber_29 rfl ?_
    refine mw_istore_n (pc' := 31) dX12_tapeNumber_30 rfl (by decide) ?_
    show mW _ _ _ _ _ [some (.inr (some 47)), some (.inl v1), some (.inl ((m_shl v2 8) ||| ((mI h 57 v3.toNatClampNeg) &&& 255))), some (.inl v3)] _ _ _
    refine mw_iinc (pc' := 34) (v := v3 + 1) dX12_tapeNumber_31 rfl (by decide) rfl rfl ?_
    show mW _ _ _ _ _ [some (.inr (some 47)), some (.inl v1), some (.inl ((m_shl v2 8) ||| ((mI h 57 v3.toNatClampNeg) &&& 255))), some (.inl (v3 + 1))] _ _ _
    refine mw_goto (tgt := 6) dX12_tapeNumber_34 (by decide) ?_
    exact K

set_option maxRecDepth 100000 in
set_option maxHeartbeats 4000000 in
theorem qX12_rowOf {G : mG} {d : Nat} {b : Nat × Nat} {h : mH} {Q : Option mV → mH → Prop} (v1 : Int32) (v2 : Int32) (hS : mSk h)
    (K : mW G kX12_rowOf (d + 1) b 5 [some (.inr (some 47)), some (.inl v1), some (.inl v2), some (.inl 0), some (.inl 0)] [] h Q) : mC G kX12_rowOf (d + 1) b [.inr (some 47), .inl v1, .inl v2] h Q := by
  refine mC_in rfl (Nat.le_of_ble_eq_true rfl) ?_
  show mW _ _ _ _ _ [some (.inr (some 47)), some (.inl v1), some (.inl v2), none, none] _ _ _
  refine mw_iconst (pc' := 1) (v := 0) dX12_rowOf_0 rfl (by decide) ?_
  refine mw_istore_n (pc' := 2) dX12_rowOf_1 rfl (by decide) ?_
  show mW _ _ _ _ _ [some (.inr (some 47)), some (.inl v1), some (.inl v2), some (.inl 0), none] _ _ _
  refine mw_iconst (pc' := 3) (v := 0) dX12_rowOf_2 rfl (by decide) ?_
  refine mw_istore (pc' := 5) dX12_rowOf_3 rfl (by decide) ?_
  show mW _ _ _ _ _ [some (.inr (some 47)), some (.inl v1), some (.inl v2), some (.inl 0), some (.inl 0)] _ _ _
  exact K

set_option maxRecDepth 100000 in
set_option maxHeartbeats 4000000 in
theorem qX12_rowOf_5 {G : mG} {d : Nat} {b : Nat × Nat} {h : mH} {Q : Option mV → mH → Prop} (v1 : Int32) (v2 : Int32) (v3 : Int32) (v4 : Int32) (hS : mSk h)
    (K : ((32 ≤ v4 → Q (some (.inl v3)) h) ∧ (¬ (32 ≤ v4) → mC G kX12_isLandAt d (0, 0) [.inr (some 47), .inl v1, .inl v4, .inl v2] h (fun r h1 => ∃ x2, r = some (.inl x2) ∧ mSk h1 ∧ ∀ w3 : Int32, w3 = (if x2 = 0 then v3 else (v3 ||| (m_shl 1 v4))) → mW G kX12_rowOf (d + 1) b 5 [some (.inr (some 47)), some (.inl v1), some (.inl v2), some (.inl w3), some (.inl (v4 + 1))] [] h1 Q)))) : mW G kX12_rowOf (d + 1) b 5 [some (.inr (some 47)), some (.inl v1), some (.inl v2), some (.inl v3), some (.inl v4)] [] h Q := by
  refine mw_iload (pc' := 7) dX12_rowOf_5 rfl rfl ?_
  refine mw_bipush (pc' := 9) (v := 32) dX12_rowOf_7 rfl (by decide) ?_
  refine mw_icmp_ge (pc' := 12) (tgt := 40) dX12_rowOf_9 rfl (by decide) (fun c6 => ?_) (fun c6 => ?_)
  · replace K := K.1 c6
    refine mw_iload_n (pc' := 41) dX12_rowOf_40 rfl rfl ?_
    exact mw_iret dX12_rowOf_41 rfl rfl K
  · replace K := K.2 c6
    refine mw_aload_n (pc' := 13) dX12_rowOf_12 rfl rfl ?_
    refine mw_iload_n (pc' := 14) dX12_rowOf_13 rfl rfl ?_
    refine mw_iload (pc' := 16) dX12_rowOf_14 rfl rfl ?_
    refine mw_iload_n (pc' := 17) dX12_rowOf_16 rfl rfl ?_
    refine mw_callV (pc' := 20) (b' := (0, 0)) (b1 := b) (av := [.inl v1, .inl v4, .inl v2]) (rest := []) dX12_rowOf_17 rfl lkX12_193 rfl rfl (Nat.le_of_ble_eq_true rfl) ⟨Nat.le_of_eq (Nat.zero_add _), Nat.le_of_eq (Nat.zero_add _)⟩ (skT_47 hS) ?_
    refine mC_mono (fun r h1 hr => ?_) K
    obtain ⟨x2, rfl, hS, K⟩ := hr
    show mW _ _ _ _ _ _ [.inl x2] _ _
    have J4 : ∀ w3 : Int32, w3 = (if x2 = 0 then v3 else (v3 ||| (m_shl 1 v4))) → mW G kX12_rowOf (d + 1) b 33 [some (.inr (some 47)), some (.inl v1), some (.inl v2), some (.inl v3), some (.inl v4)] ([.inl w3]) h1 Q := by
      intro w3 ew3
      replace K := K w3 ew3
      refine mw_istore_n (pc' := 34) dX12_rowOf_33 rfl (by decide) ?_
      show mW _ _ _ _ _ [some (.inr (some 47)), some (.inl v1), some (.inl v2), some (.inl w3), some (.inl v4)] _ _ _
      refine mw_iinc (pc' := 37) (v := v4 + 1) dX12_rowOf_34 rfl (by decide) rfl rfl ?_
      show mW _ _ _ _ _ [some (.inr (some 47)), some (.inl v1), some (.inl v2), some (.inl w3), some (.inl (v4 + 1))] _ _ _
      refine mw_goto (tgt := 5) dX12_rowOf_37 (by decide) ?_
      exact K
    refine mw_if_eq (pc' := 23) (tgt := 32) dX12_rowOf_20 rfl (by decide) (fun c5 => ?_) (fun c5 => ?_)
    · refine mw_iload_n (pc' := 33) dX12_rowOf_32 rfl rfl ?_
      exact J4 _ (by rw [if_pos c5])
    · refine mw_iload_n (pc' := 24) dX12_rowOf_23 rfl rfl ?_
      refine mw_iconst (pc' := 25) (v := 1) dX12_rowOf_24 rfl (by decide) ?_
      refine mw_iload (pc' := 27) dX12_rowOf_25 rfl rfl ?_
      refine mw_ishlM (pc' := 28) dX12_rowOf_27 rfl ?_
      refine mw_ior (pc' := 29) dX12_rowOf_28 rfl ?_
      refine mw_goto (tgt := 33) dX12_rowOf_29 (by decide) ?_
      exact J4 _ (by rw [if_neg c5])

set_option maxRecDepth 100000 in
set_option maxHeartbeats 4000000 in
theorem qX12_check {G : mG} {d : Nat} {b : Nat × Nat} {h : mH} {Q : Option mV → mH → Prop} (v1 : Int32) (v2 : Int32) (hS : mSk h)
    (K : mC G kX12_isCoast (d + 1) (0, 0) [.inr (some 47), .inl v1] h (fun r h1 => ∃ x2, r = some (.inl x2) ∧ mSk h1 ∧ ((x2 = 0 → Q (some (.inl (-2))) h1) ∧ (¬ x2 = 0 → (((f_X12_in v2 0 32) = 0 → Q (some (.inl (-2))) h1) ∧ (¬ (f_X12_in v2 0 32) = 0 → ((v2 ≤ ((mI h1 47 12) / 4) → ∀ h3, h3 = mSI h1 47 12 0 → mW G kX12_check (d + 2) b 38 [some (.inr (some 47)), some (.inl v1), some (.inl v2), some (.inl 0)] [] h3 Q) ∧ (¬ (v2 ≤ ((mI h1 47 12) / 4)) → Q (some (.inl (-2))) h1)))))))) : mC G kX12_check (d + 2) b [.inr (some 47), .inl v1, .inl v2] h Q := by
  refine mC_in rfl (Nat.le_of_ble_eq_true rfl) ?_
  show mW _ _ _ _ _ [some (.inr (some 47)), some (.inl v1), some (.inl v2), none] _ _ _
  refine mw_aload_n (pc' := 1) dX12_check_0 rfl rfl ?_
  refine mw_iload_n (pc' := 2) dX12_check_1 rfl rfl ?_
  refine mw_callV (pc' := 5) (b' := (0, 0)) (b1 := b) (av := [.inl v1]) (rest := []) dX12_check_2 rfl lkX12_187 rfl rfl (Nat.le_of_ble_eq_true rfl) ⟨Nat.le_of_eq (Nat.zero_add _), Nat.le_of_eq (Nat.zero_add _)⟩ (skT_47 hS) ?_
  refine mC_mono (fun r h1 hr => ?_) K
  obtain ⟨x2, rfl, hS, K⟩ := hr
  show mW _ _ _ _ _ _ [.inl x2] _ _
  refine mw_if_eq (pc' := 8) (tgt := 28) dX12_check_5 rfl (by decide) (fun c6 => ?_) (fun c6 => ?_)
  · replace K := K.1 c6
    refine mw_bipush (pc' := 30) (v := (-2)) dX12_check_28 rfl (by decide) ?_
    exact mw_iret dX12_check_30 rfl rfl K
  · replace K := K.2 c6
    refine mw_iload_n (pc' := 9) dX12_check_8 rfl rfl ?_
    refine mw_iconst (pc' := 10) (v := 0) dX12_check_9 rfl (by decide) ?_
    refine mw_bipush (pc' := 12) (v := 32) dX12_check_10 rfl (by decide) ?_
    refine mw_callS (pc' := 15) (b' := (0, 0)) (b1 := b) (av := [.inl v2, .inl 0, .inl 32]) (rest := []) dX12_check_12 rfl lkX12_173 rfl rfl (Nat.le_of_ble_eq_true rfl) ⟨Nat.le_of_eq (Nat.zero_add _), Nat.le_of_eq (Nat.zero_add _)⟩ ?_
    refine pX12_in ?_
    refine mw_if_eq (pc' := 18) (tgt := 28) dX12_check_15 rfl (by decide) (fun c5 => ?_) (fun c5 => ?_)
    · replace K := K.1 c5
      refine mw_bipush (pc' := 30) (v := (-2)) dX12_check_28 rfl (by decide) ?_
      exact mw_iret dX12_check_30 rfl rfl K
    · replace K := K.2 c5
      refine mw_iload_n (pc' := 19) dX12_check_18 rfl rfl ?_
      refine mw_aload_n (pc' := 20) dX12_check_19 rfl rfl ?_
      refine mw_getI (pc' := 23) dX12_check_20 rfl flX12_176 rfl (skT_47 hS) ?_
      refine mw_iconst (pc' := 24) (v := 4) dX12_check_23 rfl (by decide) ?_
      refine mw_idiv (pc' := 25) dX12_check_24 rfl (by decide) ?_
      refine mw_icmp_le (pc' := 28) (tgt := 31) dX12_check_25 rfl (by decide) (fun c4 => ?_) (fun c4 => ?_)
      · replace K := K.1 c4
        refine mw_aload_n (pc' := 32) dX12_check_31 rfl rfl ?_
        refine mw_iconst (pc' := 33) (v := 0) dX12_check_32 rfl (by decide) ?_
        refine mw_putIK (pc' := 36) dX12_check_33 rfl flX12_176 rfl (Or.inl rfl) ⟨rfl, rfl⟩ (skT_47 hS) hS (fun h3 eh3 hS => ?_)
        replace K := K h3 eh3
        refine mw_iconst (pc' := 37) (v := 0) dX12_check_36 rfl (by decide) ?_
        refine mw_istore_n (pc' := 38) dX12_check_37 rfl (by decide) ?_
        show mW _ _ _ _ _ [some (.inr (some 47)), some (.inl v1), some (.inl v2), some (.inl 0)] _ _ _
        exact K
      · replace K := K.2 c4
        refine mw_bipush (pc' := 30) (v := (-2)) dX12_check_28 rfl (by decide) ?_
        exact mw_iret dX12_check_30 rfl rfl K

set_option maxRecDepth 100000 in
set_option maxHeartbeats 4000000 in
theorem qX12_check_38 {G : mG} {d : Nat} {b : Nat × Nat} {h : mH} {Q : Option mV → mH → Prop} (v1 : Int32) (v2 : Int32) (v3 : Int32) (hS : mSk h)
    (K : ((32 ≤ v3 → Q (some (.inl (-1))) h) ∧ (¬ (32 ≤ v3) → ((v3 = v2 → Q (some (.inl v3)) h) ∧ (¬ v3 = v2 → mC G kX12_tapeNumber (d + 1) (0, 0) [.inr (some 47), .inl v3] h (fun r h1 => ∃ x2, r = some (.inl x2) ∧ mSk h1 ∧ mC G kX12_rowOf (d + 1) (0, 0) [.inr (some 47), .inl v1, .inl v3] h1 (fun r h3 => ∃ x4, r = some (.inl x4) ∧ mSk h3 ∧ ((x2 = x4 → mW G kX12_check (d + 2) b 38 [some (.inr (some 47)), some (.inl v1), some (.inl v2), some (.inl (v3 + 1))] [] h3 Q) ∧ (¬ x2 = x4 → Q (some (.inl v3)) h3))))))))) : mW G kX12_check (d + 2) b 38 [some (.inr (some 47)), some (.inl v1), some (.inl v2), some (.inl v3)] [] h Q := by
  refine mw_iload_n (pc' := 39) dX12_check_38 rfl rfl ?_
  refine mw_bipush (pc' := 41) (v := 32) dX12_check_39 rfl (by decide) ?_
  refine mw_icmp_ge (pc' := 44) (tgt := 71) dX12_check_41 rfl (by decide) (fun c7 => ?_) (fun c7 => ?_)
  · replace K := K.1 c7
    refine mw_iconst (pc' := 72) (v := (-1)) dX12_check_71 rfl (by decide) ?_
    exact mw_iret dX12_check_72 rfl rfl K
  · replace K := K.2 c7
    refine mw_iload_n (pc' := 45) dX12_check_44 rfl rfl ?_
    refine mw_iload_n (pc' := 46) dX12_check_45 rfl rfl ?_
    refine mw_icmp_eq (pc' := 49) (tgt := 63) dX12_check_46 rfl (by decide) (fun c6 => ?_) (fun c6 => ?_)
    · replace K := K.1 c6
      refine mw_iload_n (pc' := 64) dX12_check_63 rfl rfl ?_
      exact mw_iret dX12_check_64 rfl rfl K
    · replace K := K.2 c6
      refine mw_aload_n (pc' := 50) dX12_check_49 rfl rfl ?_
      refine mw_iload_n (pc' := 51) dX12_check_50 rfl rfl ?_
      refine mw_callV (pc' := 54) (b' := (0, 0)) (b1 := b) (av := [.inl v3]) (rest := []) dX12_check_51 rfl lkX12_474 rfl rfl (Nat.le_of_ble_eq_true rfl) ⟨Nat.le_of_eq (Nat.zero_add _), Nat.le_of_eq (Nat.zero_add _)⟩ (skT_47 hS) ?_
      refine mC_mono (fun r h1 hr => ?_) K
      obtain ⟨x2, rfl, hS, K⟩ := hr
      show mW _ _ _ _ _ _ [.inl x2] _ _
      refine mw_aload_n (pc' := 55) dX12_check_54 rfl rfl ?_
      refine mw_iload_n (pc' := 56) dX12_check_55 rfl rfl ?_
      refine mw_iload_n (pc' := 57) dX12_check_56 rfl rfl ?_
      refine mw_callV (pc' := 60) (b' := (0, 0)) (b1 := b) (av := [.inl v1, .inl v3]) (rest := [.inl x2]) dX12_check_57 rfl lkX12_477 rfl rfl (Nat.le_of_ble_eq_true rfl) ⟨Nat.le_of_eq (Nat.zero_add _), Nat.le_of_eq (Nat.zero_add _)⟩ (skT_47 hS) ?_
      refine mC_mono (fun r h3 hr => ?_) K
      obtain ⟨x4, rfl, hS, K⟩ := hr
      show mW _ _ _ _ _ _ [.inl x4, .inl x2] _ _
      refine mw_icmp_eq (pc' := 63) (tgt := 65) dX12_check_60 rfl (by decide) (fun c5 => ?_) (fun c5 => ?_)
      · replace K := K.1 c5
        refine mw_iinc (pc' := 68) (v := v3 + 1) dX12_check_65 rfl (by decide) rfl rfl ?_
        show mW _ _ _ _ _ [some (.inr (some 47)), some (.inl v1), some (.inl v2), some (.inl (v3 + 1))] _ _ _
        refine mw_goto (tgt := 38) dX12_check_68 (by decide) ?_
        exact K
      · replace K := K.2 c5
        refine mw_iload_n (pc' := 64) dX12_check_63 rfl rfl ?_
        exact mw_iret dX12_check_64 rfl rfl K

set_option maxRecDepth 100000 in
set_option maxHeartbeats 4000000 in
theorem qX12_count {G : mG} {d : Nat} {b : Nat × Nat} {h : mH} {Q : Option mV → mH → Prop} (v1 : Int32) (hS : mSk h)
    (K : ((((v1).toInt < 0 ∨ 8 < (v1).toInt) → (((f_X12_in v1 10 (9 + (mI h 47 0))) = 0 → Q (some (.inl (-1))) h) ∧ (¬ (f_X12_in v1 10 (9 + (mI h 47 0))) = 0 → vp_in (v1 - 10) 8 ∧ Q (some (.inl (mI h 48 (v1 - 10).toNatClampNeg))) h))) ∧ (v1 = 0 → Q (some (.inl (mI h 47 0))) h) ∧ (v1 = 1 → Q (some (.inl (mI h 47 6))) h) ∧ (v1 = 2 → Q (some (.inl (mI h 47 21))) h) ∧ (v1 = 3 → Q (some (.inl (mI h 47 12))) h) ∧ (v1 = 4 → Q (some (.inl (mI h 47 33))) h) ∧ (v1 = 5 → ((¬ (mI h 47 33) = 0 → vp_in ((mI h 47 33) - 1) 12 ∧ Q (some (.inl (mI h 74 ((mI h 47 33) - 1).toNatClampNeg))) h) ∧ ((mI h 47 33) = 0 → Q (some (.inl (-1))) h))) ∧ (v1 = 6 → Q (some (.inl (mI h 47 34))) h) ∧ (v1 = 7 → Q (some (.inl (mI h 47 52))) h) ∧ (v1 = 8 → mC G kX12_laysFitting (d + 7) (0, 0) [.inr (some 47)] h (fun r h6 => r = none ∧ mSk h6 ∧ Q (some (.inl (mI h6 47 51))) h6)))) : mC G kX12_count (d + 8) b [.inr (some 47), .inl v1] h Q := by
  refine mC_in rfl (Nat.le_of_ble_eq_true rfl) ?_
  show mW _ _ _ _ _ [some (.inr (some 47)), some (.inl v1)] _ _ _
  refine mw_iload_n (pc' := 1) dX12_count_0 rfl rfl ?_
  by_cases c1 : (v1).toInt < 0 ∨ 8 < (v1).toInt
  · replace K := K.1 c1
    refine mw_tableOut (tgt := 119) dX12_count_1 c1 (by decide) ?_
    refine mw_iload_n (pc' := 120) dX12_count_119 rfl rfl ?_
    refine mw_bipush (pc' := 122) (v := 10) dX12_count_120 rfl (by decide) ?_
    refine mw_bipush (pc' := 124) (v := 9) dX12_count_122 rfl (by decide) ?_
    refine mw_aload_n (pc' := 125) dX12_count_124 rfl rfl ?_
    refine mw_getI (pc' := 128) dX12_count_125 rfl flX12_154 rfl (skT_47 hS) ?_
    refine mw_iadd (pc' := 129) dX12_count_128 rfl ?_
    refine mw_callS (pc' := 132) (b' := (0, 0)) (b1 := b) (av := [.inl v1, .inl 10, .inl (9 + (mI h 47 0))]) (rest := []) dX12_count_129 rfl lkX12_173 rfl rfl (Nat.le_of_ble_eq_true rfl) ⟨Nat.le_of_eq (Nat.zero_add _), Nat.le_of_eq (Nat.zero_add _)⟩ ?_
    refine pX12_in ?_
    refine mw_if_eq (pc' := 135) (tgt := 147) dX12_count_132 rfl (by decide) (fun c3 => ?_) (fun c3 => ?_)
    · replace K := K.1 c3
      refine mw_iconst (pc' := 148) (v := (-1)) dX12_count_147 rfl (by decide) ?_
      exact mw_iret dX12_count_148 rfl rfl K
    · replace K := K.2 c3
      refine mw_aload_n (pc' := 136) dX12_count_135 rfl rfl ?_
      refine mw_getR (pc' := 139) dX12_count_136 rfl flX12_7 rfl (skT_47 hS) ?_
      rw [skR_47_1 hS]
      refine mw_iload_n (pc' := 140) dX12_count_139 rfl rfl ?_
      refine mw_bipush (pc' := 142) (v := 10) dX12_count_140 rfl (by decide) ?_
      refine mw_isub (pc' := 143) dX12_count_142 rfl ?_
      obtain ⟨o2, K⟩ := K
      refine mw_ialdL (pc' := 144) dX12_count_143 rfl (skT_48 hS) (skL_48 hS) o2 ?_
      refine mw_goto (tgt := 148) dX12_count_144 (by decide) ?_
      exact mw_iret dX12_count_148 rfl rfl K
  · replace K := K.2
    have hv : v1 = 0 ∨ v1 = 1 ∨ v1 = 2 ∨ v1 = 3 ∨ v1 = 4 ∨ v1 = 5 ∨ v1 = 6 ∨ v1 = 7 ∨ v1 = 8 := by
      rcases (show (v1).toInt = 0 ∨ (v1).toInt = 1 ∨ (v1).toInt = 2 ∨ (v1).toInt = 3 ∨ (v1).toInt = 4 ∨ (v1).toInt = 5 ∨ (v1).toInt = 6 ∨ (v1).toInt = 7 ∨ (v1).toInt = 8 by omega) with z | z | z | z | z | z | z | z | z
      · exact Or.inl (m_sw (z.trans (by decide)))
      · exact Or.inr (Or.inl (m_sw (z.trans (by decide))))
      · exact Or.inr (Or.inr (Or.inl (m_sw (z.trans (by decide)))))
      · exact Or.inr (Or.inr (Or.inr (Or.inl (m_sw (z.trans (by decide))))))
      · exact Or.inr (Or.inr (Or.inr (Or.inr (Or.inl (m_sw (z.trans (by decide)))))))
      · exact Or.inr (Or.inr (Or.inr (Or.inr (Or.inr (Or.inl (m_sw (z.trans (by decide))))))))
      · exact Or.inr (Or.inr (Or.inr (Or.inr (Or.inr (Or.inr (Or.inl (m_sw (z.trans (by decide)))))))))
      · exact Or.inr (Or.inr (Or.inr (Or.inr (Or.inr (Or.inr (Or.inr (Or.inl (m_sw (z.trans (by decide))))))))))
      · exact Or.inr (Or.inr (Or.inr (Or.inr (Or.inr (Or.inr (Or.inr (Or.inr (m_sw (z.trans (by decide))))))))))
    rcases hv with hv | hv | hv | hv | hv | hv | hv | hv | hv
    · replace K := K.1 hv
      refine mw_tableIn (off := 51) (tgt := 52) dX12_count_1 (by rw [hv]; decide) (by rw [hv]; decide) (by rw [hv]; rfl) (by decide) ?_
      refine mw_aload_n (pc' := 53) dX12_count_52 rfl rfl ?_
      refine mw_getI (pc' := 56) dX12_count_53 rfl flX12_154 rfl (skT_47 hS) ?_
      exact mw_iret dX12_count_56 rfl rfl K
    · replace K := K.2.1 hv
      refine mw_tableIn (off := 56) (tgt := 57) dX12_count_1 (by rw [hv]; decide) (by rw [hv]; decide) (by rw [hv]; rfl) (by decide) ?_
      refine mw_aload_n (pc' := 58) dX12_count_57 rfl rfl ?_
      refine mw_getI (pc' := 61) dX12_count_58 rfl flX12_218 rfl (skT_47 hS) ?_
      exact mw_iret dX12_count_61 rfl rfl K
    · replace K := K.2.2.1 hv
      refine mw_tableIn (off := 61) (tgt := 62) dX12_count_1 (by rw [hv]; decide) (by rw [hv]; decide) (by rw [hv]; rfl) (by decide) ?_
      refine mw_aload_n (pc' := 63) dX12_count_62 rfl rfl ?_
      refine mw_getI (pc' := 66) dX12_count_63 rfl flX12_313 rfl (skT_47 hS) ?_
      exact mw_iret dX12_count_66 rfl rfl K
    · replace K := K.2.2.2.1 hv
      refine mw_tableIn (off := 66) (tgt := 67) dX12_count_1 (by rw [hv]; decide) (by rw [hv]; decide) (by rw [hv]; rfl) (by decide) ?_
      refine mw_aload_n (pc' := 68) dX12_count_67 rfl rfl ?_
      refine mw_getI (pc' := 71) dX12_count_68 rfl flX12_176 rfl (skT_47 hS) ?_
      exact mw_iret dX12_count_71 rfl rfl K
    · replace K := K.2.2.2.2.1 hv
      refine mw_tableIn (off := 71) (tgt := 72) dX12_count_1 (by rw [hv]; decide) (by rw [hv]; decide) (by rw [hv]; rfl) (by decide) ?_
      refine mw_aload_n (pc' := 73) dX12_count_72 rfl rfl ?_
      refine mw_getI (pc' := 76) dX12_count_73 rfl flX12_340 rfl (skT_47 hS) ?_
      exact mw_iret dX12_count_76 rfl rfl K
    · replace K := K.2.2.2.2.2.1 hv
      refine mw_tableIn (off := 76) (tgt := 77) dX12_count_1 (by rw [hv]; decide) (by rw [hv]; decide) (by rw [hv]; rfl) (by decide) ?_
      refine mw_aload_n (pc' := 78) dX12_count_77 rfl rfl ?_
      refine mw_getI (pc' := 81) dX12_count_78 rfl flX12_340 rfl (skT_47 hS) ?_
      refine mw_if_ne (pc' := 84) (tgt := 88) dX12_count_81 rfl (by decide) (fun c5 => ?_) (fun c5 => ?_)
      · replace K := K.1 c5
        refine mw_aload_n (pc' := 89) dX12_count_88 rfl rfl ?_
        refine mw_getR (pc' := 92) dX12_count_89 rfl flX12_90 rfl (skT_47 hS) ?_
        rw [skR_47_44 hS]
        refine mw_aload_n (pc' := 93) dX12_count_92 rfl rfl ?_
        refine mw_getI (pc' := 96) dX12_count_93 rfl flX12_340 rfl (skT_47 hS) ?_
        refine mw_iconst (pc' := 97) (v := 1) dX12_count_96 rfl (by decide) ?_
        refine mw_isub (pc' := 98) dX12_count_97 rfl ?_
        obtain ⟨o4, K⟩ := K
        refine mw_ialdL (pc' := 99) dX12_count_98 rfl (skT_74 hS) (skL_74 hS) o4 ?_
        exact mw_iret dX12_count_99 rfl rfl K
      · replace K := K.2 c5
        refine mw_iconst (pc' := 85) (v := (-1)) dX12_count_84 rfl (by decide) ?_
        refine mw_goto (tgt := 99) dX12_count_85 (by decide) ?_
        exact mw_iret dX12_count_99 rfl rfl K
    · replace K := K.2.2.2.2.2.2.1 hv
      refine mw_tableIn (off := 99) (tgt := 100) dX12_count_1 (by rw [hv]; decide) (by rw [hv]; decide) (by rw [hv]; rfl) (by decide) ?_
      refine mw_aload_n (pc' := 101) dX12_count_100 rfl rfl ?_
      refine mw_getI (pc' := 104) dX12_count_101 rfl flX12_346 rfl (skT_47 hS) ?_
      exact mw_iret dX12_count_104 rfl rfl K
    · replace K := K.2.2.2.2.2.2.2.1 hv
      refine mw_tableIn (off := 104) (tgt := 105) dX12_count_1 (by rw [hv]; decide) (by rw [hv]; decide) (by rw [hv]; rfl) (by decide) ?_
      refine mw_aload_n (pc' := 106) dX12_count_105 rfl rfl ?_
      refine mw_getI (pc' := 109) dX12_count_106 rfl flX12_413 rfl (skT_47 hS) ?_
      exact mw_iret dX12_count_109 rfl rfl K
    · replace K := K.2.2.2.2.2.2.2.2 hv
      refine mw_tableIn (off := 109) (tgt := 110) dX12_count_1 (by rw [hv]; decide) (by rw [hv]; decide) (by rw [hv]; rfl) (by decide) ?_
      refine mw_aload_n (pc' := 111) dX12_count_110 rfl rfl ?_
      refine mw_callV (pc' := 114) (b' := (0, 0)) (b1 := b) (av := []) (rest := []) dX12_count_111 rfl lkX12_410 rfl rfl (Nat.le_of_ble_eq_true rfl) ⟨Nat.le_of_eq (Nat.zero_add _), Nat.le_of_eq (Nat.zero_add _)⟩ (skT_47 hS) ?_
      refine mC_mono (fun r h6 hr => ?_) K
      obtain ⟨rfl, hS, K⟩ := hr
      show mW _ _ _ _ _ _ [] _ _
      refine mw_aload_n (pc' := 115) dX12_count_114 rfl rfl ?_
      refine mw_getI (pc' := 118) dX12_count_115 rfl flX12_403 rfl (skT_47 hS) ?_
      exact mw_iret dX12_count_118 rfl rfl K
