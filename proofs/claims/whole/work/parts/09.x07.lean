set_option maxRecDepth 100000 in
set_option maxHeartbeats 4000000 in
theorem qX7_tell {G : mG} {d : Nat} {b : Nat × Nat} {h : mH} {Q : Option mV → mH → Prop} (a : Nat) (v1 : Int32) (v2 : Int32) (v3 : Int32) (v4 : Int32) (ta : mT h a = 8) (hS : mSk h)
    (K : m_bool v1 ∧ ∀ h1, h1 = mSI h a 0 v1 → ∀ h3, h3 = mSI h1 a 1 v2 → ∀ h4, h4 = mSI h3 a 2 v3 → ∀ h5, h5 = mSI h4 a 3 v4 → mC G kX7_forget (d + 1) (0, 0) [.inr (some a)] h5 (fun r h6 => r = none ∧ mSk h6 ∧ mT h6 a = 8 ∧ Q none h6)) : mC G kX7_tell (d + 2) b [.inr (some a), .inl v1, .inl v2, .inl v3, .inl v4] h Q := by
  refine mC_in rfl (Nat.le_of_ble_eq_true rfl) ?_
  show mW _ _ _ _ _ [some (.inr (some a)), some (.inl v1), some (.inl v2), some (.inl v3), some (.inl v4)] _ _ _
  refine mw_aload_n (pc' := 1) dX7_tell_0 rfl rfl ?_
  refine mw_iload_n (pc' := 2) dX7_tell_1 rfl rfl ?_
  obtain ⟨o2, K⟩ := K
  refine mw_putIK (pc' := 5) dX7_tell_2 rfl flX7_18 rfl (Or.inl rfl) (m_boolP o2) (ta) hS (fun h1 eh1 hS => ?_)
  replace K := K h1 eh1
  have ta : mT h1 a = 8 := by rw [eh1]; exact ta
  refine mw_aload_n (pc' := 6) dX7_tell_5 rfl rfl ?_
  refine mw_iload_n (pc' := 7) dX7_tell_6 rfl rfl ?_
  refine mw_putIK (pc' := 10) dX7_tell_7 rfl flX7_22 rfl (Or.inl rfl) ⟨rfl, rfl⟩ (ta) hS (fun h3 eh3 hS => ?_)
  replace K := K h3 eh3
  have ta : mT h3 a = 8 := by rw [eh3]; exact ta
  refine mw_aload_n (pc' := 11) dX7_tell_10 rfl rfl ?_
  refine mw_iload_n (pc' := 12) dX7_tell_11 rfl rfl ?_
  refine mw_putIK (pc' := 15) dX7_tell_12 rfl flX7_26 rfl (Or.inl rfl) ⟨rfl, rfl⟩ (ta) hS (fun h4 eh4 hS => ?_)
  replace K := K h4 eh4
  have ta : mT h4 a = 8 := by rw [eh4]; exact ta
  refine mw_aload_n (pc' := 16) dX7_tell_15 rfl rfl ?_
  refine mw_iload (pc' := 18) dX7_tell_16 rfl rfl ?_
  refine mw_putIK (pc' := 21) dX7_tell_18 rfl flX7_29 rfl (Or.inl rfl) ⟨rfl, rfl⟩ (ta) hS (fun h5 eh5 hS => ?_)
  replace K := K h5 eh5
  have ta : mT h5 a = 8 := by rw [eh5]; exact ta
  refine mw_aload_n (pc' := 22) dX7_tell_21 rfl rfl ?_
  refine mw_callV (pc' := 25) (b' := (0, 0)) (b1 := b) (av := []) (rest := []) dX7_tell_22 rfl lkX7_32 rfl rfl (Nat.le_of_ble_eq_true rfl) ⟨Nat.le_of_eq (Nat.zero_add _), Nat.le_of_eq (Nat.zero_add _)⟩ (ta) ?_
  refine mC_mono (fun r h6 hr => ?_) K
  obtain ⟨rfl, hS, ta, K⟩ := hr
  show mW _ _ _ _ _ _ [] _ _
  exact mw_ret dX7_tell_25 rfl K

set_option maxRecDepth 100000 in
set_option maxHeartbeats 4000000 in
theorem qX7_forget {G : mG} {d : Nat} {b : Nat × Nat} {h : mH} {Q : Option mV → mH → Prop} (a : Nat) (ta : mT h a = 8) (hS : mSk h)
    (K : mC G kJ7_fill_53178 d (0, 0) [.inr (some (a + 1)), .inl 0] h (fun r h1 => r = none ∧ mSk h1 ∧ mT h1 a = 8 ∧ mC G kJ7_fill_53178 d (0, 0) [.inr (some (a + 2)), .inl 0] h1 (fun r h2 => r = none ∧ mSk h2 ∧ mT h2 a = 8 ∧ Q none h2))) : mC G kX7_forget (d + 1) b [.inr (some a)] h Q := by
  refine mC_in rfl (Nat.le_of_ble_eq_true rfl) ?_
  show mW _ _ _ _ _ [some (.inr (some a))] _ _ _
  refine mw_aload_n (pc' := 1) dX7_forget_0 rfl rfl ?_
  refine mw_getR (pc' := 4) dX7_forget_1 rfl flX7_9 rfl (ta) ?_
  rw [skBR_7_4 hS ta]
  refine mw_iconst (pc' := 5) (v := 0) dX7_forget_4 rfl (by decide) ?_
  refine mw_callS (pc' := 8) (b' := (0, 0)) (b1 := b) (av := [.inr (some (a + 1)), .inl 0]) (rest := []) dX7_forget_5 rfl lkX7_35 rfl rfl (Nat.le_of_ble_eq_true rfl) ⟨Nat.le_of_eq (Nat.zero_add _), Nat.le_of_eq (Nat.zero_add _)⟩ ?_
  refine mC_mono (fun r h1 hr => ?_) K
  obtain ⟨rfl, hS, ta, K⟩ := hr
  show mW _ _ _ _ _ _ [] _ _
  refine mw_aload_n (pc' := 9) dX7_forget_8 rfl rfl ?_
  refine mw_getR (pc' := 12) dX7_forget_9 rfl flX7_15 rfl (ta) ?_
  rw [skBR_7_5 hS ta]
  refine mw_iconst (pc' := 13) (v := 0) dX7_forget_12 rfl (by decide) ?_
  refine mw_callS (pc' := 16) (b' := (0, 0)) (b1 := b) (av := [.inr (some (a + 2)), .inl 0]) (rest := []) dX7_forget_13 rfl lkX7_35 rfl rfl (Nat.le_of_ble_eq_true rfl) ⟨Nat.le_of_eq (Nat.zero_add _), Nat.le_of_eq (Nat.zero_add _)⟩ ?_
  refine mC_mono (fun r h2 hr => ?_) K
  obtain ⟨rfl, hS, ta, K⟩ := hr
  show mW _ _ _ _ _ _ [] _ _
  exact mw_ret dX7_forget_16 rfl K

set_option maxRecDepth 100000 in
set_option maxHeartbeats 4000000 in
theorem qX7_fitsView {G : mG} {d : Nat} {b : Nat × Nat} {h : mH} {Q : Option mV → mH → Prop} (a : Nat) (v1 : Int32) (ta : mT h a = 8) (hS : mSk h)
    (K : ((¬ (mI h a 2) = 0 → ∀ w1 : Int32, w1 = (if ¬ (2 * (f_X11_echoSteps v1)) = (mI h a 2) then 0 else 1) → Q (some (.inl w1)) h) ∧ ((mI h a 2) = 0 → Q (some (.inl (f_X11_maybeSilent v1))) h))) : mC G kX7_fitsView (d + 1) b [.inr (some a), .inl v1] h Q := by
  refine mC_in rfl (Nat.le_of_ble_eq_true rfl) ?_
  show mW _ _ _ _ _ [some (.inr (some a)), some (.inl v1)] _ _ _
  refine mw_aload_n (pc' := 1) dX7_fitsView_0 rfl rfl ?_
  refine mw_getI (pc' := 4) dX7_fitsView_1 rfl flX7_26 rfl (ta) ?_
  refine mw_if_ne (pc' := 7) (tgt := 12) dX7_fitsView_4 rfl (by decide) (fun c4 => ?_) (fun c4 => ?_)
  · replace K := K.1 c4
    refine mw_iconst (pc' := 13) (v := 2) dX7_fitsView_12 rfl (by decide) ?_
    refine mw_iload_n (pc' := 14) dX7_fitsView_13 rfl rfl ?_
    refine mw_callS (pc' := 17) (b' := (0, 0)) (b1 := b) (av := [.inl v1]) (rest := [.inl 2]) dX7_fitsView_14 rfl lkX7_45 rfl rfl (Nat.le_of_ble_eq_true rfl) ⟨Nat.le_of_eq (Nat.zero_add _), Nat.le_of_eq (Nat.zero_add _)⟩ ?_
    refine pX11_echoSteps ?_
    refine mw_imul (pc' := 18) dX7_fitsView_17 rfl ?_
    refine mw_aload_n (pc' := 19) dX7_fitsView_18 rfl rfl ?_
    refine mw_getI (pc' := 22) dX7_fitsView_19 rfl flX7_26 rfl (ta) ?_
    have J2 : ∀ w1 : Int32, w1 = (if ¬ (2 * (f_X11_echoSteps v1)) = (mI h a 2) then 0 else 1) → mW G kX7_fitsView (d + 1) b 30 [some (.inr (some a)), some (.inl v1)] ([.inl w1]) h Q := by
      intro w1 ew1
      replace K := K w1 ew1
      exact mw_iret dX7_fitsView_30 rfl (m_boolN (by rw [ew1]; exact (m_boolI m_bool0 m_bool1))) K
    refine mw_icmp_ne (pc' := 25) (tgt := 29) dX7_fitsView_22 rfl (by decide) (fun c3 => ?_) (fun c3 => ?_)
    · refine mw_iconst (pc' := 30) (v := 0) dX7_fitsView_29 rfl (by decide) ?_
      exact J2 _ (by rw [if_pos c3])
    · refine mw_iconst (pc' := 26) (v := 1) dX7_fitsView_25 rfl (by decide) ?_
      refine mw_goto (tgt := 30) dX7_fitsView_26 (by decide) ?_
      exact J2 _ (by rw [if_neg (fun z => z c3)])
  · replace K := K.2 c4
    refine mw_iload_n (pc' := 8) dX7_fitsView_7 rfl rfl ?_
    refine mw_callS (pc' := 11) (b' := (0, 0)) (b1 := b) (av := [.inl v1]) (rest := []) dX7_fitsView_8 rfl lkX7_41 rfl rfl (Nat.le_of_ble_eq_true rfl) ⟨Nat.le_of_eq (Nat.zero_add _), Nat.le_of_eq (Nat.zero_add _)⟩ ?_
    refine pX11_maybeSilent ?_
    exact mw_iret dX7_fitsView_11 rfl (m_boolN (fb_X11_maybeSilent ..)) K
