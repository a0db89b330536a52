def f_max (x y : Int32) : Int32 := if x < y then y else x
def f_min (x y : Int32) : Int32 := if y < x then y else x
def f_abs (x : Int32) : Int32 := if 0 ≤ x then x else 0 - x
set_option maxRecDepth 100000 in
theorem m_noMath : ∀ w ∈ mTn, (match w with
  | .methodLinkNest _ _ y _ => decide (y.cls ≠ "java/lang/Math")
  | _ => true) = true := by decide +kernel
set_option maxRecDepth 100000 in
theorem m_cmax : Cond.code Lib.Math.max.name Lib.Math.max.code 2 (some .int) ∈ mTs := mm 452 (by decide +kernel) (by decide +kernel)
theorem mw_mmax {G : mG} {k : mM} {d : Nat} {b : Nat × Nat} {pc pc' : Nat} {ls : List (Option mV)} {st : List mV} {h : mH} {Q : Option mV → mH → Prop} {idx : Nat} {x y : Int32} (hd : decode k.2.1 pc = .ok (.invokestatic idx, 3)) (hp : pc + 3 = pc') (hl : mLS k.1.cls idx kJ9_max_7cf53 2) (hr8 : st.length ≤ 8) (kk : mW G k (d + 1) b pc' ls (.inl (f_max x y) :: st) h Q) : mW G k (d + 1) b pc ls (.inl y :: .inl x :: st) h Q := by
  subst hp
  intro p e s m args below meth c R Z C hQ H locs cells slots LS hA
  obtain ⟨hx, hbc, hr, hml, hown, hts, hlk, hnm, hK⟩ := id C
  obtain ⟨⟨hf1, hf2, hf3, hf4⟩, hR, hS, hLs⟩ := id hA
  obtain ⟨hm, hstt, hl | ⟨host, hl⟩⟩ := hl
  · have hcat := m_cat G st hr8
    exact va_mmax hx hbc (hml.trans hLs.1.symm) hown (hts _ hl) (hts _ hstt) (hts _ hm.2.1) (hts _ m_cmax) (by omega) (by omega) (by omega) (by omega) hd (kk p e s m args below meth c R Z C hQ _ _ _ _ _ hA)
  · have := m_noMath _ hl
    exact absurd (of_decide_eq_true this) (fun z => z rfl)
set_option maxRecDepth 100000 in
theorem m_cmin : Cond.code Lib.Math.min.name Lib.Math.min.code 2 (some .int) ∈ mTs := mm 455 (by decide +kernel) (by decide +kernel)
theorem mw_mmin {G : mG} {k : mM} {d : Nat} {b : Nat × Nat} {pc pc' : Nat} {ls : List (Option mV)} {st : List mV} {h : mH} {Q : Option mV → mH → Prop} {idx : Nat} {x y : Int32} (hd : decode k.2.1 pc = .ok (.invokestatic idx, 3)) (hp : pc + 3 = pc') (hl : mLS k.1.cls idx kJ9_min_7cf53 2) (hr8 : st.length ≤ 8) (kk : mW G k (d + 1) b pc' ls (.inl (f_min x y) :: st) h Q) : mW G k (d + 1) b pc ls (.inl y :: .inl x :: st) h Q := by
  subst hp
  intro p e s m args below meth c R Z C hQ H locs cells slots LS hA
  obtain ⟨hx, hbc, hr, hml, hown, hts, hlk, hnm, hK⟩ := id C
  obtain ⟨⟨hf1, hf2, hf3, hf4⟩, hR, hS, hLs⟩ := id hA
  obtain ⟨hm, hstt, hl | ⟨host, hl⟩⟩ := hl
  · have hcat := m_cat G st hr8
    exact va_mmin hx hbc (hml.trans hLs.1.symm) hown (hts _ hl) (hts _ hstt) (hts _ hm.2.1) (hts _ m_cmin) (by omega) (by omega) (by omega) (by omega) hd (kk p e s m args below meth c R Z C hQ _ _ _ _ _ hA)
  · have := m_noMath _ hl
    exact absurd (of_decide_eq_true this) (fun z => z rfl)
set_option maxRecDepth 100000 in
theorem m_cabs : Cond.code Lib.Math.abs.name Lib.Math.abs.code 1 (some .int) ∈ mTs := mm 709 (by decide +kernel) (by decide +kernel)
theorem mw_mabs {G : mG} {k : mM} {d : Nat} {b : Nat × Nat} {pc pc' : Nat} {ls : List (Option mV)} {st : List mV} {h : mH} {Q : Option mV → mH → Prop} {idx : Nat} {x : Int32} (hd : decode k.2.1 pc = .ok (.invokestatic idx, 3)) (hp : pc + 3 = pc') (hl : mLS k.1.cls idx kJ9_abs_0f7a4 1) (hr8 : st.length ≤ 8) (kk : mW G k (d + 1) b pc' ls (.inl (f_abs x) :: st) h Q) : mW G k (d + 1) b pc ls (.inl x :: st) h Q := by
  subst hp
  intro p e s m args below meth c R Z C hQ H locs cells slots LS hA
  obtain ⟨hx, hbc, hr, hml, hown, hts, hlk, hnm, hK⟩ := id C
  obtain ⟨⟨hf1, hf2, hf3, hf4⟩, hR, hS, hLs⟩ := id hA
  obtain ⟨hm, hstt, hl | ⟨host, hl⟩⟩ := hl
  · have hcat := m_cat G st hr8
    exact va_mabs hx hbc (hml.trans hLs.1.symm) hown (hts _ hl) (hts _ hstt) (hts _ hm.2.1) (hts _ m_cabs) (by omega) (by omega) (by omega) (by omega) hd (kk p e s m args below meth c R Z C hQ _ _ _ _ _ hA)
  · have := m_noMath _ hl
    exact absurd (of_decide_eq_true this) (fun z => z rfl)

theorem mw_iincw {G : mG} {k : mM} {d : Nat} {b : Nat × Nat} {pc pc' : Nat} {ls : List (Option mV)} {st : List mV} {h : mH} {Q : Option mV → mH → Prop} {i : Nat} {n : Int} {x v : Int32} (hd : decode k.2.1 pc = .ok (.iinc i n, 6)) (hp : pc + 6 = pc') (hi : i < k.2.2.1) (hl : ls[i]? = some (some (.inl x))) (hv : x + Int32.ofInt n = v) (kk : mW G k d b pc' (ls.set i (some (.inl v))) st h Q) : mW G k d b pc ls st h Q := by
  subst hp
  subst hv
  intro p e s m args below meth c R Z C hQ H locs cells slots LS hA
  obtain ⟨hx, hb, hr, hml, hown, hts, hlk, hnm, hK⟩ := id C
  obtain ⟨⟨hf1, hf2, hf3, hf4⟩, hR, hS, hLs⟩ := id hA
  have hg : LS[i]? = some (.val (.int x)) := hLs.2.2 _ _ hl
  obtain ⟨ls', e', h'⟩ := lv_store1 (v := .int (x + Int32.ofInt n)) hLs.has hi rfl
  intro T hT X
  obtain ⟨t, a, b2⟩ := kk p e s m args below meth c R Z C hQ _ _ _ _ ls' ⟨hA.1, hR, hS, mLoc.store (v := .inl (x + Int32.ofInt n)) h'⟩ T hT X
  refine ⟨t, ?_, b2⟩
  jvm_step X.here [X.here.top, ↓top_set X.here.top, hx, hb, hd, hg, e']
  exact a

set_option maxRecDepth 100000 in
theorem nwX5_9 : ∃ q : vw_C, vwCl[7]? = some q ∧ Cond.classLink RX5 9 q.1 ∈ mTs ∧ Cond.instantiable q.1 6 ∈ mTs ∧ Cond.initialized q.1 ∈ mTs := ⟨_, rfl, mm 746 (by decide +kernel) (by decide +kernel), mm 792 (by decide +kernel) (by decide +kernel), mm 21 (by decide +kernel) (by decide +kernel)⟩
set_option maxRecDepth 100000 in
theorem nwX6_9 : ∃ q : vw_C, vwCl[5]? = some q ∧ Cond.classLink RX6 9 q.1 ∈ mTs ∧ Cond.instantiable q.1 7 ∈ mTs ∧ Cond.initialized q.1 ∈ mTs := ⟨_, rfl, mm 73 (by decide +kernel) (by decide +kernel), mm 741 (by decide +kernel) (by decide +kernel), mm 20 (by decide +kernel) (by decide +kernel)⟩
def f_J6_bitCount_0f7a4 (a : Int32) : Int32 := (((((((a - ((m_ushr a 1) &&& 1431655765)) &&& 858993459) + ((m_ushr (a - ((m_ushr a 1) &&& 1431655765)) 2) &&& 858993459)) + (m_ushr (((a - ((m_ushr a 1) &&& 1431655765)) &&& 858993459) + ((m_ushr (a - ((m_ushr a 1) &&& 1431655765)) 2) &&& 858993459)) 4)) &&& 252645135) + (m_ushr (((((a - ((m_ushr a 1) &&& 1431655765)) &&& 858993459) + ((m_ushr (a - ((m_ushr a 1) &&& 1431655765)) 2) &&& 858993459)) + (m_ushr (((a - ((m_ushr a 1) &&& 1431655765)) &&& 858993459) + ((m_ushr (a - ((m_ushr a 1) &&& 1431655765)) 2) &&& 858993459)) 4)) &&& 252645135) 8)) + (m_ushr ((((((a - ((m_ushr a 1) &&& 1431655765)) &&& 858993459) + ((m_ushr (a - ((m_ushr a 1) &&& 1431655765)) 2) &&& 858993459)) + (m_ushr (((a - ((m_ushr a 1) &&& 1431655765)) &&& 858993459) + ((m_ushr (a - ((m_ushr a 1) &&& 1431655765)) 2) &&& 858993459)) 4)) &&& 252645135) + (m_ushr (((((a - ((m_ushr a 1) &&& 1431655765)) &&& 858993459) + ((m_ushr (a - ((m_ushr a 1) &&& 1431655765)) 2) &&& 858993459)) + (m_ushr (((a - ((m_ushr a 1) &&& 1431655765)) &&& 858993459) + ((m_ushr (a - ((m_ushr a 1) &&& 1431655765)) 2) &&& 858993459)) 4)) &&& 252645135) 8)) 16)) &&& 63
set_option maxRecDepth 100000 in
set_option maxHeartbeats 4000000 in
theorem pJ6_bitCount_0f7a4 {G : mG} {d : Nat} {b : Nat × Nat} {h : mH} {Q : Option mV → mH → Prop} {a : Int32} (K : Q (some (.inl (f_J6_bitCount_0f7a4 a))) h) : mC G kJ6_bitCount_0f7a4 d b [.inl a] h Q := by
  refine mC_in rfl (Nat.le_of_ble_eq_true rfl) ?_
  show mW _ _ _ _ _ [some (.inl a)] _ _ _
  unfold f_J6_bitCount_0f7a4 at K
  refine mw_iload_n (pc' := 1) dJ6_bitCount_0f7a4_0 rfl rfl ?_
  refine mw_iload_n (pc' := 2) dJ6_bitCount_0f7a4_1 rfl rfl ?_
  refine mw_iconst (pc' := 3) (v := 1) dJ6_bitCount_0f7a4_2 rfl (by decide) ?_
  refine mw_iushrM (pc' := 4) dJ6_bitCount_0f7a4_3 rfl ?_
  refine mw_ldcw (pc' := 7) dJ6_bitCount_0f7a4_4 rfl cnJ6_265 ?_
  refine mw_iand (pc' := 8) dJ6_bitCount_0f7a4_7 rfl ?_
  refine mw_isub (pc' := 9) dJ6_bitCount_0f7a4_8 rfl ?_
  refine mw_istore_n (pc' := 10) dJ6_bitCount_0f7a4_9 rfl (by decide) ?_
  show mW _ _ _ _ _ [some (.inl (a - ((m_ushr a 1) &&& 1431655765)))] _ _ _
  refine mw_iload_n (pc' := 11) dJ6_bitCount_0f7a4_10 rfl rfl ?_
  refine mw_ldcw (pc' := 14) dJ6_bitCount_0f7a4_11 rfl cnJ6_266 ?_
  refine mw_iand (pc' := 15) dJ6_bitCount_0f7a4_14 rfl ?_
  refine mw_iload_n (pc' := 16) dJ6_bitCount_0f7a4_15 rfl rfl ?_
  refine mw_iconst (pc' := 17) (v := 2) dJ6_bitCount_0f7a4_16 rfl (by decide) ?_
  refine mw_iushrM (pc' := 18) dJ6_bitCount_0f7a4_17 rfl ?_
  refine mw_ldcw (pc' := 21) dJ6_bitCount_0f7a4_18 rfl cnJ6_266 ?_
  refine mw_iand (pc' := 22) dJ6_bitCount_0f7a4_21 rfl ?_
  refine mw_iadd (pc' := 23) dJ6_bitCount_0f7a4_22 rfl ?_
  refine mw_istore_n (pc' := 24) dJ6_bitCount_0f7a4_23 rfl (by decide) ?_
  show mW _ _ _ _ _ [some (.inl (((a - ((m_ushr a 1) &&& 1431655765)) &&& 858993459) + ((m_ushr (a - ((m_ushr a 1) &&& 1431655765)) 2) &&& 858993459)))] _ _ _
  refine mw_iload_n (pc' := 25) dJ6_bitCount_0f7a4_24 rfl rfl ?_
  refine mw_iload_n (pc' := 26) dJ6_bitCount_0f7a4_25 rfl rfl ?_
  refine mw_iconst (pc' := 27) (v := 4) dJ6_bitCount_0f7a4_26 rfl (by decide) ?_
  refine mw_iushrM (pc' := 28) dJ6_bitCount_0f7a4_27 rfl ?_
  refine mw_iadd (pc' := 29) dJ6_bitCount_0f7a4_28 rfl ?_
  refine mw_ldcw (pc' := 32) dJ6_bitCount_0f7a4_29 rfl cnJ6_267 ?_
  refine mw_iand (pc' := 33) dJ6_bitCount_0f7a4_32 rfl ?_
  refine mw_istore_n (pc' := 34) dJ6_bitCount_0f7a4_33 rfl (by decide) ?_
  show mW _ _ _ _ _ [some (.inl (((((a - ((m_ushr a 1) &&& 1431655765)) &&& 858993459) + ((m_ushr (a - ((m_ushr a 1) &&& 1431655765)) 2) &&& 858993459)) + (m_ushr (((a - ((m_ushr a 1) &&& 1431655765)) &&& 858993459) + ((m_ushr (a - ((m_ushr a 1) &&& 1431655765)) 2) &&& 858993459)) 4)) &&& 252645135))] _ _ _
  refine mw_iload_n (pc' := 35) dJ6_bitCount_0f7a4_34 rfl rfl ?_
  refine mw_iload_n (pc' := 36) dJ6_bitCount_0f7a4_35 rfl rfl ?_
  refine mw_bipush (pc' := 38) (v := 8) dJ6_bitCount_0f7a4_36 rfl (by decide) ?_
  refine mw_iushrM (pc' := 39) dJ6_bitCount_0f7a4_38 rfl ?_
  refine mw_iadd (pc' := 40) dJ6_bitCount_0f7a4_39 rfl ?_
  refine mw_istore_n (pc' := 41) dJ6_bitCount_0f7a4_40 rfl (by decide) ?_
  show mW _ _ _ _ _ [some (.inl ((((((a - ((m_ushr a 1) &&& 1431655765)) &&& 858993459) + ((m_ushr (a - ((m_ushr a 1) &&& 1431655765)) 2) &&& 858993459)) + (m_ushr (((a - ((m_ushr a 1) &&& 1431655765)) &&& 858993459) + ((m_ushr (a - ((m_ushr a 1) &&& 1431655765)) 2) &&& 858993459)) 4)) &&& 252645135) + (m_ushr (((((a - ((m_ushr a 1) &&& 1431655765)) &&& 858993459) + ((m_ushr (a - ((m_ushr a 1) &&& 1431655765)) 2) &&& 858993459)) + (m_ushr (((a - ((m_ushr a 1) &&& 1431655765)) &&& 858993459) + ((m_ushr (a - ((m_ushr a 1) &&& 1431655765)) 2) &&& 858993459)) 4)) &&& 252645135) 8)))] _ _ _
  refine mw_iload_n (pc' := 42) dJ6_bitCount_0f7a4_41 rfl rfl ?_
  refine mw_iload_n (pc' := 43) dJ6_bitCount_0f7a4_42 rfl rfl ?_
  refine mw_bipush (pc' := 45) (v := 16) dJ6_bitCount_0f7a4_43 rfl (by decide) ?_
  refine mw_iushrM (pc' := 46) dJ6_bitCount_0f7a4_45 rfl ?_
  refine mw_iadd (pc' := 47) dJ6_bitCount_0f7a4_46 rfl ?_
  refine mw_istore_n (pc' := 48) dJ6_bitCount_0f7a4_47 rfl (by decide) ?_
  show mW _ _ _ _ _ [some (.inl (((((((a - ((m_ushr a 1) &&& 1431655765)) &&& 858993459) + ((m_ushr (a - ((m_ushr a 1) &&& 1431655765)) 2) &&& 858993459)) + (m_ushr (((a - ((m_ushr a 1) &&& 1431655765)) &&& 858993459) + ((m_ushr (a - ((m_ushr a 1) &&& 1431655765)) 2) &&& 858993459)) 4)) &&& 252645135) + (m_ushr (((((a - ((m_ushr a 1) &&& 1431655765)) &&& 858993459) + ((m_ushr (a - ((m_ushr a 1) &&& 1431655765)) 2) &&& 858993459)) + (m_ushr (((a - ((m_ushr a 1) &&& 1431655765)) &&& 858993459) + ((m_ushr (a - ((m_ushr a 1) &&& 1431655765)) 2) &&& 858993459)) 4)) &&& 252645135) 8)) + (m_ushr ((((((a - ((m_ushr a 1) &&& 1431655765)) &&& 858993459) + ((m_ushr (a - ((m_ushr a 1) &&& 1431655765)) 2) &&& 858993459)) + (m_ushr (((a - ((m_ushr a 1) &&& 1431655765)) &&& 858993459) + ((m_ushr (a - ((m_ushr a 1) &&& 1431655765)) 2) &&& 858993459)) 4)) &&& 252645135) + (m_ushr (((((a - ((m_ushr a 1) &&& 1431655765)) &&& 858993459) + ((m_ushr (a - ((m_ushr a 1) &&& 1431655765)) 2) &&& 858993459)) + (m_ushr (((a - ((m_ushr a 1) &&& 1431655765)) &&& 858993459) + ((m_ushr (a - ((m_ushr a 1) &&& 1431655765)) 2) &&& 858993459)) 4)) &&& 252645135) 8)) 16)))] _ _ _
  refine mw_iload_n (pc' := 49) dJ6_bitCount_0f7a4_48 rfl rfl ?_
  refine mw_bipush (pc' := 51) (v := 63) dJ6_bitCount_0f7a4_49 rfl (by decide) ?_
  refine mw_iand (pc' := 52) dJ6_bitCount_0f7a4_51 rfl ?_
  exact mw_iret dJ6_bitCount_0f7a4_52 rfl rfl K

def f_X11_within (v : Int32) (lo : Int32) (hi : Int32) : Int32 := if v < lo then 0 else (if hi < v then 0 else 1)
theorem fb_X11_within (v : Int32) (lo : Int32) (hi : Int32) : m_bool (f_X11_within v lo hi) := by unfold f_X11_within; exact (m_boolI m_bool0 (m_boolI m_bool0 m_bool1))
set_option maxRecDepth 100000 in
set_option maxHeartbeats 4000000 in
theorem pX11_within {G : mG} {d : Nat} {b : Nat × Nat} {h : mH} {Q : Option mV → mH → Prop} {v : Int32} {lo : Int32} {hi : Int32} (K : Q (some (.inl (f_X11_within v lo hi))) h) : mC G kX11_within d b [.inl v, .inl lo, .inl hi] h Q := by
  refine mC_in rfl (Nat.le_of_ble_eq_true rfl) ?_
  show mW _ _ _ _ _ [some (.inl v), some (.inl lo), some (.inl hi)] _ _ _
  unfold f_X11_within at K
  refine mw_iload_n (pc' := 1) dX11_within_0 rfl rfl ?_
  refine mw_iload_n (pc' := 2) dX11_within_1 rfl rfl ?_
  refine mw_icmp_lt (pc' := 5) (tgt := 14) dX11_within_2 rfl (by decide) (fun c1 => ?_) (fun c1 => ?_)
  · refine mw_iconst (pc' := 15) (v := 0) dX11_within_14 rfl (by decide) ?_
    rw [if_pos c1] at K; exact mw_iret dX11_within_15 rfl (m_boolN m_bool0) K
  · refine mw_iload_n (pc' := 6) dX11_within_5 rfl rfl ?_
    refine mw_iload_n (pc' := 7) dX11_within_6 rfl rfl ?_
    refine mw_icmp_gt (pc' := 10) (tgt := 14) dX11_within_7 rfl (by decide) (fun c2 => ?_) (fun c2 => ?_)
    · refine mw_iconst (pc' := 15) (v := 0) dX11_within_14 rfl (by decide) ?_
      rw [if_neg c1, if_pos c2] at K; exact mw_iret dX11_within_15 rfl (m_boolN m_bool0) K
    · refine mw_iconst (pc' := 11) (v := 1) dX11_within_10 rfl (by decide) ?_
      refine mw_goto (tgt := 15) dX11_within_11 (by decide) ?_
      rw [if_neg c1, if_neg c2] at K; exact mw_iret dX11_within_15 rfl (m_boolN m_bool1) K

def f_X11_inGrid (x : Int32) (y : Int32) : Int32 := if x < 0 then 0 else (if 32 ≤ x then 0 else (if y < 0 then 0 else (if 32 ≤ y then 0 else 1)))
theorem fb_X11_inGrid (x : Int32) (y : Int32) : m_bool (f_X11_inGrid x y) := by unfold f_X11_inGrid; exact (m_boolI m_bool0 (m_boolI m_bool0 (m_boolI m_bool0 (m_boolI m_bool0 m_bool1))))
set_option maxRecDepth 100000 in
set_option maxHeartbeats 4000000 in
theorem pX11_inGrid {G : mG} {d : Nat} {b : Nat × Nat} {h : mH} {Q : Option mV → mH → Prop} {x : Int32} {y : Int32} (K : Q (some (.inl (f_X11_inGrid x y))) h) : mC G kX11_inGrid d b [.inl x, .inl y] h Q := by
  refine mC_in rfl (Nat.le_of_ble_eq_true rfl) ?_
  show mW _ _ _ _ _ [some (.inl x), some (.inl y)] _ _ _
  unfold f_X11_inGrid at K
  refine mw_iload_n (pc' := 1) dX11_inGrid_0 rfl rfl ?_
  refine mw_if_lt (pc' := 4) (tgt := 24) dX11_inGrid_1 rfl (by decide) (fun c1 => ?_) (fun c1 => ?_)
  · refine mw_iconst (pc' := 25) (v := 0) dX11_inGrid_24 rfl (by decide) ?_
    rw [if_pos c1] at K; exact mw_iret dX11_inGrid_25 rfl (m_boolN m_bool0) K
  · refine mw_iload_n (pc' := 5) dX11_inGrid_4 rfl rfl ?_
    refine mw_bipush (pc' := 7) (v := 32) dX11_inGrid_5 rfl (by decide) ?_
    refine mw_icmp_ge (pc' := 10) (tgt := 24) dX11_inGrid_7 rfl (by decide) (fun c2 => ?_) (fun c2 => ?_)
    · refine mw_iconst (pc' := 25) (v := 0) dX11_inGrid_24 rfl (by decide) ?_
      rw [if_neg c1, if_pos c2] at K; exact mw_iret dX11_inGrid_25 rfl (m_boolN m_bool0) K
    · refine mw_iload_n (pc' := 11) dX11_inGrid_10 rfl rfl ?_
      refine mw_if_lt (pc' := 14) (tgt := 24) dX11_inGrid_11 rfl (by decide) (fun c3 => ?_) (fun c3 => ?_)
      · refine mw_iconst (pc' := 25) (v := 0) dX11_inGrid_24 rfl (by decide) ?_
        rw [if_neg c1, if_neg c2, if_pos c3] at K; exact mw_iret dX11_inGrid_25 rfl (m_boolN m_bool0) K
      · refine mw_iload_n (pc' := 15) dX11_inGrid_14 rfl rfl ?_
        refine mw_bipush (pc' := 17) (v := 32) dX11_inGrid_15 rfl (by decide) ?_
        refine mw_icmp_ge (pc' := 20) (tgt := 24) dX11_inGrid_17 rfl (by decide) (fun c4 => ?_) (fun c4 => ?_)
        · refine mw_iconst (pc' := 25) (v := 0) dX11_inGrid_24 rfl (by decide) ?_
          rw [if_neg c1, if_neg c2, if_neg c3, if_pos c4] at K; exact mw_iret dX11_inGrid_25 rfl (m_boolN m_bool0) K
        · refine mw_iconst (pc' := 21) (v := 1) dX11_inGrid_20 rfl (by decide) ?_
          refine mw_goto (tgt := 25) dX11_inGrid_21 (by decide) ?_
          rw [if_neg c1, if_neg c2, if_neg c3, if_neg c4] at K; exact mw_iret dX11_inGrid_25 rfl (m_boolN m_bool1) K

def f_X11_span (a : Int32) (n_b : Int32) : Int32 := if n_b ≤ a then (if n_b ≤ a then ((m_shl (-1) n_b) &&& (m_ushr (-1) (31 - a))) else ((m_shl (-1) n_b) &&& (m_ushr (-1) (31 - n_b)))) else (if n_b ≤ a then ((m_shl (-1) a) &&& (m_ushr (-1) (31 - a))) else ((m_shl (-1) a) &&& (m_ushr (-1) (31 - n_b))))
set_option maxRecDepth 100000 in
set_option maxHeartbeats 4000000 in
theorem pX11_span {G : mG} {d : Nat} {b : Nat × Nat} {h : mH} {Q : Option mV → mH → Prop} {a : Int32} {n_b : Int32} (K : Q (some (.inl (f_X11_span a n_b))) h) : mC G kX11_span d b [.inl a, .inl n_b] h Q := by
  refine mC_in rfl (Nat.le_of_ble_eq_true rfl) ?_
  show mW _ _ _ _ _ [some (.inl a), some (.inl n_b), none, none] _ _ _
  unfold f_X11_span at K
  refine mw_iload_n (pc' := 1) dX11_span_0 rfl rfl ?_
  refine mw_iload_n (pc' := 2) dX11_span_1 rfl rfl ?_
  refine mw_icmp_ge (pc' := 5) (tgt := 9) dX11_span_2 rfl (by decide) (fun c1 => ?_) (fun c1 => ?_)
  · refine mw_iload_n (pc' := 10) dX11_span_9 rfl rfl ?_
    refine mw_istore_n (pc' := 11) dX11_span_10 rfl (by decide) ?_
    show mW _ _ _ _ _ [some (.inl a), some (.inl n_b), some (.inl n_b), none] _ _ _
    refine mw_iload_n (pc' := 12) dX11_span_11 rfl rfl ?_
    refine mw_iload_n (pc' := 13) dX11_span_12 rfl rfl ?_
    refine mw_icmp_ge (pc' := 16) (tgt := 20) dX11_span_13 rfl (by decide) (fun c2 => ?_) (fun c2 => ?_)
    · refine mw_iload_n (pc' := 21) dX11_span_20 rfl rfl ?_
      refine mw_istore_n (pc' := 22) dX11_span_21 rfl (by decide) ?_
      show mW _ _ _ _ _ [some (.inl a), some (.inl n_b), some (.inl n_b), some (.inl a)] _ _ _
      refine mw_iconst (pc' := 23) (v := (-1)) dX11_span_22 rfl (by decide) ?_
      refine mw_iload_n (pc' := 24) dX11_span_23 rfl rfl ?_
      refine mw_ishlM (pc' := 25) dX11_span_24 rfl ?_
      refine mw_iconst (pc' := 26) (v := (-1)) dX11_span_25 rfl (by decide) ?_
      refine mw_bipush (pc' := 28) (v := 31) dX11_span_26 rfl (by decide) ?_
      refine mw_iload_n (pc' := 29) dX11_span_28 rfl rfl ?_
      refine mw_isub (pc' := 30) dX11_span_29 rfl ?_
      refine mw_iushrM (pc' := 31) dX11_span_30 rfl ?_
      refine mw_iand (pc' := 32) dX11_span_31 rfl ?_
      rw [if_pos c1, if_pos c2] at K; exact mw_iret dX11_span_32 rfl rfl K
    · refine mw_iload_n (pc' := 17) dX11_span_16 rfl rfl ?_
      refine mw_goto (tgt := 21) dX11_span_17 (by decide) ?_
      refine mw_istore_n (pc' := 22) dX11_span_21 rfl (by decide) ?_
      show mW _ _ _ _ _ [some (.inl a), some (.inl n_b), some (.inl n_b), some (.inl n_b)] _ _ _
      refine mw_iconst (pc' := 23) (v := (-1)) dX11_span_22 rfl (by decide) ?_
      refine mw_iload_n (pc' := 24) dX11_span_23 rfl rfl ?_
      refine mw_ishlM (pc' := 25) dX11_span_24 rfl ?_
      refine mw_iconst (pc' := 26) (v := (-1)) dX11_span_25 rfl (by decide) ?_
      refine mw_bipush (pc' := 28) (v := 31) dX11_span_26 rfl (by decide) ?_
      refine mw_iload_n (pc' := 29) dX11_span_28 rfl rfl ?_
      refine mw_isub (pc' := 30) dX11_span_29 rfl ?_
      refine mw_iushrM (pc' := 31) dX11_span_30 rfl ?_
      refine mw_iand (pc' := 32) dX11_span_31 rfl ?_
      rw [if_pos c1, if_neg c2] at K; exact mw_iret dX11_span_32 rfl rfl K
  · refine mw_iload_n (pc' := 6) dX11_span_5 rfl rfl ?_
    refine mw_goto (tgt := 10) dX11_span_6 (by decide) ?_
    refine mw_istore_n (pc' := 11) dX11_span_10 rfl (by decide) ?_
    show mW _ _ _ _ _ [some (.inl a), some (.inl n_b), some (.inl a), none] _ _ _
    refine mw_iload_n (pc' := 12) dX11_span_11 rfl rfl ?_
    refine mw_iload_n (pc' := 13) dX11_span_12 rfl rfl ?_
    refine mw_icmp_ge (pc' := 16) (tgt := 20) dX11_span_13 rfl (by decide) (fun c3 => ?_) (fun c3 => ?_)
    · refine mw_iload_n (pc' := 21) dX11_span_20 rfl rfl ?_
      refine mw_istore_n (pc' := 22) dX11_span_21 rfl (by decide) ?_
      show mW _ _ _ _ _ [some (.inl a), some (.inl n_b), some (.inl a), some (.inl a)] _ _ _
      refine mw_iconst (pc' := 23) (v := (-1)) dX11_span_22 rfl (by decide) ?_
      refine mw_iload_n (pc' := 24) dX11_span_23 rfl rfl ?_
      refine mw_ishlM (pc' := 25) dX11_span_24 rfl ?_
      refine mw_iconst (pc' := 26) (v := (-1)) dX11_span_25 rfl (by decide) ?_
      refine mw_bipush (pc' := 28) (v := 31) dX11_span_26 rfl (by decide) ?_
      refine mw_iload_n (pc' := 29) dX11_span_28 rfl rfl ?_
      refine mw_isub (pc' := 30) dX11_span_29 rfl ?_
      refine mw_iushrM (pc' := 31) dX11_span_30 rfl ?_
      refine mw_iand (pc' := 32) dX11_span_31 rfl ?_
      rw [if_neg c1, if_pos c3] at K; exact mw_iret dX11_span_32 rfl rfl K
    · refine mw_iload_n (pc' := 17) dX11_span_16 rfl rfl ?_
      refine mw_goto (tgt := 21) dX11_span_17 (by decide) ?_
      refine mw_istore_n (pc' := 22) dX11_span_21 rfl (by decide) ?_
      show mW _ _ _ _ _ [some (.inl a), some (.inl n_b), some (.inl a), some (.inl n_b)] _ _ _
      refine mw_iconst (pc' := 23) (v := (-1)) dX11_span_22 rfl (by decide) ?_
      refine mw_iload_n (pc' := 24) dX11_span_23 rfl rfl ?_
      refine mw_ishlM (pc' := 25) dX11_span_24 rfl ?_
      refine mw_iconst (pc' := 26) (v := (-1)) dX11_span_25 rfl (by decide) ?_
      refine mw_bipush (pc' := 28) (v := 31) dX11_span_26 rfl (by decide) ?_
      refine mw_iload_n (pc' := 29) dX11_span_28 rfl rfl ?_
      refine mw_isub (pc' := 30) dX11_span_29 rfl ?_
      refine mw_iushrM (pc' := 31) dX11_span_30 rfl ?_
      refine mw_iand (pc' := 32) dX11_span_31 rfl ?_
      rw [if_neg c1, if_neg c3] at K; exact mw_iret dX11_span_32 rfl rfl K

def f_X11_moved (row : Int32) (sh : Int32) : Int32 := if sh < 0 then (m_ushr row (-sh)) else (m_shl row sh)
set_option maxRecDepth 100000 in
set_option maxHeartbeats 4000000 in
theorem pX11_moved {G : mG} {d : Nat} {b : Nat × Nat} {h : mH} {Q : Option mV → mH → Prop} {row : Int32} {sh : Int32} (K : Q (some (.inl (f_X11_moved row sh))) h) : mC G kX11_moved d b [.inl row, .inl sh] h Q := by
  refine mC_in rfl (Nat.le_of_ble_eq_true rfl) ?_
  show mW _ _ _ _ _ [some (.inl row), some (.inl sh)] _ _ _
  unfold f_X11_moved at K
  refine mw_iload_n (pc' := 1) dX11_moved_0 rfl rfl ?_
  refine mw_if_lt (pc' := 4) (tgt := 10) dX11_moved_1 rfl (by decide) (fun c1 => ?_) (fun c1 => ?_)
  · refine mw_iload_n (pc' := 11) dX11_moved_10 rfl rfl ?_
    refine mw_iload_n (pc' := 12) dX11_moved_11 rfl rfl ?_
    refine mw_ineg (pc' := 13) dX11_moved_12 rfl ?_
    refine mw_iushrM (pc' := 14) dX11_moved_13 rfl ?_
    rw [if_pos c1] at K; exact mw_iret dX11_moved_14 rfl rfl K
  · refine mw_iload_n (pc' := 5) dX11_moved_4 rfl rfl ?_
    refine mw_iload_n (pc' := 6) dX11_moved_5 rfl rfl ?_
    refine mw_ishlM (pc' := 7) dX11_moved_6 rfl ?_
    refine mw_goto (tgt := 14) dX11_moved_7 (by decide) ?_
    rw [if_neg c1] at K; exact mw_iret dX11_moved_14 rfl rfl K

def f_X11_lowestBit (row : Int32) : Int32 := f_J6_bitCount_0f7a4 ((row &&& (-row)) - 1)
set_option maxRecDepth 100000 in
set_option maxHeartbeats 4000000 in
theorem pX11_lowestBit {G : mG} {d : Nat} {b : Nat × Nat} {h : mH} {Q : Option mV → mH → Prop} {row : Int32} (K : Q (some (.inl (f_X11_lowestBit row))) h) : mC G kX11_lowestBit (d + 1) b [.inl row] h Q := by
  refine mC_in rfl (Nat.le_of_ble_eq_true rfl) ?_
  show mW _ _ _ _ _ [some (.inl row)] _ _ _
  unfold f_X11_lowestBit at K
  refine mw_iload_n (pc' := 1) dX11_lowestBit_0 rfl rfl ?_
  refine mw_iload_n (pc' := 2) dX11_lowestBit_1 rfl rfl ?_
  refine mw_ineg (pc' := 3) dX11_lowestBit_2 rfl ?_
  refine mw_iand (pc' := 4) dX11_lowestBit_3 rfl ?_
  refine mw_iconst (pc' := 5) (v := 1) dX11_lowestBit_4 rfl (by decide) ?_
  refine mw_isub (pc' := 6) dX11_lowestBit_5 rfl ?_
  refine mw_callS (pc' := 9) (b' := (0, 0)) (b1 := b) (av := [.inl ((row &&& (-row)) - 1)]) (rest := []) dX11_lowestBit_6 rfl lkX11_319 rfl rfl (Nat.le_of_ble_eq_true rfl) ⟨Nat.le_of_eq (Nat.zero_add _), Nat.le_of_eq (Nat.zero_add _)⟩ ?_
  refine pJ6_bitCount_0f7a4 ?_
  exact mw_iret dX11_lowestBit_9 rfl rfl K

def f_X11_echoSteps (view : Int32) : Int32 := if view ≤ 0 then 0 else (if (view &&& 3) = 1 then 0 else (m_shr view 2))
set_option maxRecDepth 100000 in
set_option maxHeartbeats 4000000 in
theorem pX11_echoSteps {G : mG} {d : Nat} {b : Nat × Nat} {h : mH} {Q : Option mV → mH → Prop} {view : Int32} (K : Q (some (.inl (f_X11_echoSteps view))) h) : mC G kX11_echoSteps d b [.inl view] h Q := by
  refine mC_in rfl (Nat.le_of_ble_eq_true rfl) ?_
  show mW _ _ _ _ _ [some (.inl view)] _ _ _
  unfold f_X11_echoSteps at K
  refine mw_iload_n (pc' := 1) dX11_echoSteps_0 rfl rfl ?_
  refine mw_if_le (pc' := 4) (tgt := 17) dX11_echoSteps_1 rfl (by decide) (fun c1 => ?_) (fun c1 => ?_)
  · refine mw_iconst (pc' := 18) (v := 0) dX11_echoSteps_17 rfl (by decide) ?_
    rw [if_pos c1] at K; exact mw_iret dX11_echoSteps_18 rfl rfl K
  · refine mw_iload_n (pc' := 5) dX11_echoSteps_4 rfl rfl ?_
    refine mw_iconst (pc' := 6) (v := 3) dX11_echoSteps_5 rfl (by decide) ?_
    refine mw_iand (pc' := 7) dX11_echoSteps_6 rfl ?_
    refine mw_iconst (pc' := 8) (v := 1) dX11_echoSteps_7 rfl (by decide) ?_
    refine mw_icmp_eq (pc' := 11) (tgt := 17) dX11_echoSteps_8 rfl (by decide) (fun c2 => ?_) (fun c2 => ?_)
    · refine mw_iconst (pc' := 18) (v := 0) dX11_echoSteps_17 rfl (by decide) ?_
      rw [if_neg c1, if_pos c2] at K; exact mw_iret dX11_echoSteps_18 rfl rfl K
    · refine mw_iload_n (pc' := 12) dX11_echoSteps_11 rfl rfl ?_
      refine mw_iconst (pc' := 13) (v := 2) dX11_echoSteps_12 rfl (by decide) ?_
      refine mw_ishrM (pc' := 14) dX11_echoSteps_13 rfl ?_
      refine mw_goto (tgt := 18) dX11_echoSteps_14 (by decide) ?_
      rw [if_neg c1, if_neg c2] at K; exact mw_iret dX11_echoSteps_18 rfl rfl K

def f_X11_maybeSilent (view : Int32) : Int32 := if view ≤ 0 then 1 else (if (view &&& 3) = 0 then 0 else 1)
theorem fb_X11_maybeSilent (view : Int32) : m_bool (f_X11_maybeSilent view) := by unfold f_X11_maybeSilent; exact (m_boolI m_bool1 (m_boolI m_bool0 m_bool1))
set_option maxRecDepth 100000 in
set_option maxHeartbeats 4000000 in
theorem pX11_maybeSilent {G : mG} {d : Nat} {b : Nat × Nat} {h : mH} {Q : Option mV → mH → Prop} {view : Int32} (K : Q (some (.inl (f_X11_maybeSilent view))) h) : mC G kX11_maybeSilent d b [.inl view] h Q := by
  refine mC_in rfl (Nat.le_of_ble_eq_true rfl) ?_
  show mW _ _ _ _ _ [some (.inl view)] _ _ _
  unfold f_X11_maybeSilent at K
  refine mw_iload_n (pc' := 1) dX11_maybeSilent_0 rfl rfl ?_
  refine mw_if_le (pc' := 4) (tgt := 10) dX11_maybeSilent_1 rfl (by decide) (fun c1 => ?_) (fun c1 => ?_)
  · refine mw_iconst (pc' := 11) (v := 1) dX11_maybeSilent_10 rfl (by decide) ?_
    refine mw_goto (tgt := 15) dX11_maybeSilent_11 (by decide) ?_
    rw [if_pos c1] at K; exact mw_iret dX11_maybeSilent_15 rfl (m_boolN m_bool1) K
  · refine mw_iload_n (pc' := 5) dX11_maybeSilent_4 rfl rfl ?_
    refine mw_iconst (pc' := 6) (v := 3) dX11_maybeSilent_5 rfl (by decide) ?_
    refine mw_iand (pc' := 7) dX11_maybeSilent_6 rfl ?_
    refine mw_if_eq (pc' := 10) (tgt := 14) dX11_maybeSilent_7 rfl (by decide) (fun c2 => ?_) (fun c2 => ?_)
    · refine mw_iconst (pc' := 15) (v := 0) dX11_maybeSilent_14 rfl (by decide) ?_
      rw [if_neg c1, if_pos c2] at K; exact mw_iret dX11_maybeSilent_15 rfl (m_boolN m_bool0) K
    · refine mw_iconst (pc' := 11) (v := 1) dX11_maybeSilent_10 rfl (by decide) ?_
      refine mw_goto (tgt := 15) dX11_maybeSilent_11 (by decide) ?_
      rw [if_neg c1, if_neg c2] at K; exact mw_iret dX11_maybeSilent_15 rfl (m_boolN m_bool1) K

def f_X3_reckon (o : Int32) (l : Int32) (r : Int32) : Int32 := if o = 2 then (l + r) else (if o = 3 then (l - r) else (if o = 4 then (l * r) else (if o = 5 then (if ¬ r = 0 then (l / r) else 0) else (if ¬ r = 0 then (m_rem l r) else 0))))
set_option maxRecDepth 100000 in
set_option maxHeartbeats 4000000 in
theorem pX3_reckon {G : mG} {d : Nat} {b : Nat × Nat} {h : mH} {Q : Option mV → mH → Prop} {o : Int32} {l : Int32} {r : Int32} (K : Q (some (.inl (f_X3_reckon o l r))) h) : mC G kX3_reckon d b [.inl o, .inl l, .inl r] h Q := by
  refine mC_in rfl (Nat.le_of_ble_eq_true rfl) ?_
  show mW _ _ _ _ _ [some (.inl o), some (.inl l), some (.inl r)] _ _ _
  unfold f_X3_reckon at K
  refine mw_iload_n (pc' := 1) dX3_reckon_0 rfl rfl ?_
  by_cases c1 : o = 2
  · refine mw_tableIn (off := 31) (tgt := 32) dX3_reckon_1 (by rw [c1]; decide) (by rw [c1]; decide) (by rw [c1]; rfl) (by decide) ?_
    refine mw_iload_n (pc' := 33) dX3_reckon_32 rfl rfl ?_
    refine mw_iload_n (pc' := 34) dX3_reckon_33 rfl rfl ?_
    refine mw_iadd (pc' := 35) dX3_reckon_34 rfl ?_
    rw [if_pos c1] at K; exact mw_iret dX3_reckon_35 rfl rfl K
  by_cases c2 : o = 3
  · refine mw_tableIn (off := 35) (tgt := 36) dX3_reckon_1 (by rw [c2]; decide) (by rw [c2]; decide) (by rw [c2]; rfl) (by decide) ?_
    refine mw_iload_n (pc' := 37) dX3_reckon_36 rfl rfl ?_
    refine mw_iload_n (pc' := 38) dX3_reckon_37 rfl rfl ?_
    refine mw_isub (pc' := 39) dX3_reckon_38 rfl ?_
    rw [if_neg c1, if_pos c2] at K; exact mw_iret dX3_reckon_39 rfl rfl K
  by_cases c3 : o = 4
  · refine mw_tableIn (off := 39) (tgt := 40) dX3_reckon_1 (by rw [c3]; decide) (by rw [c3]; decide) (by rw [c3]; rfl) (by decide) ?_
    refine mw_iload_n (pc' := 41) dX3_reckon_40 rfl rfl ?_
    refine mw_iload_n (pc' := 42) dX3_reckon_41 rfl rfl ?_
    refine mw_imul (pc' := 43) dX3_reckon_42 rfl ?_
    rw [if_neg c1, if_neg c2, if_pos c3] at K; exact mw_iret dX3_reckon_43 rfl rfl K
  by_cases c4 : o = 5
  · refine mw_tableIn (off := 43) (tgt := 44) dX3_reckon_1 (by rw [c4]; decide) (by rw [c4]; decide) (by rw [c4]; rfl) (by decide) ?_
    refine mw_iload_n (pc' := 45) dX3_reckon_44 rfl rfl ?_
    refine mw_if_ne (pc' := 48) (tgt := 52) dX3_reckon_45 rfl (by decide) (fun c5 => ?_) (fun c5 => ?_)
    · refine mw_iload_n (pc' := 53) dX3_reckon_52 rfl rfl ?_
      refine mw_iload_n (pc' := 54) dX3_reckon_53 rfl rfl ?_
      refine mw_idiv (pc' := 55) dX3_reckon_54 rfl (by first | assumption | decide) ?_
      rw [if_neg c1, if_neg c2, if_neg c3, if_pos c4, if_pos c5] at K; exact mw_iret dX3_reckon_55 rfl rfl K
    · refine mw_iconst (pc' := 49) (v := 0) dX3_reckon_48 rfl (by decide) ?_
      refine mw_goto (tgt := 55) dX3_reckon_49 (by decide) ?_
      rw [if_neg c1, if_neg c2, if_neg c3, if_pos c4, if_neg (fun z => z c5)] at K; exact mw_iret dX3_reckon_55 rfl rfl K
  by_cases c6 : (o).toInt < 2 ∨ 5 < (o).toInt
  · refine mw_tableOut (tgt := 56) dX3_reckon_1 c6 (by decide) ?_
    refine mw_iload_n (pc' := 57) dX3_reckon_56 rfl rfl ?_
    refine mw_if_ne (pc' := 60) (tgt := 64) dX3_reckon_57 rfl (by decide) (fun c7 => ?_) (fun c7 => ?_)
    · refine mw_iload_n (pc' := 65) dX3_reckon_64 rfl rfl ?_
      refine mw_iload_n (pc' := 66) dX3_reckon_65 rfl rfl ?_
      refine mw_iremM (pc' := 67) dX3_reckon_66 rfl (by first | assumption | decide) ?_
      rw [if_neg c1, if_neg c2, if_neg c3, if_neg c4, if_pos c7] at K; exact mw_iret dX3_reckon_67 rfl rfl K
    · refine mw_iconst (pc' := 61) (v := 0) dX3_reckon_60 rfl (by decide) ?_
      refine mw_goto (tgt := 67) dX3_reckon_61 (by decide) ?_
      rw [if_neg c1, if_neg c2, if_neg c3, if_neg c4, if_neg (fun z => z c7)] at K; exact mw_iret dX3_reckon_67 rfl rfl K
  · exfalso
    rcases (show (o).toInt = 2 ∨ (o).toInt = 3 ∨ (o).toInt = 4 ∨ (o).toInt = 5 by omega) with z | z | z | z
    · exact c1 (m_sw (z.trans (by decide)))
    · exact c2 (m_sw (z.trans (by decide)))
    · exact c3 (m_sw (z.trans (by decide)))
    · exact c4 (m_sw (z.trans (by decide)))

def f_X12_in (v : Int32) (lo : Int32) (hi : Int32) : Int32 := if v < lo then 0 else (if hi < v then 0 else 1)
theorem fb_X12_in (v : Int32) (lo : Int32) (hi : Int32) : m_bool (f_X12_in v lo hi) := by unfold f_X12_in; exact (m_boolI m_bool0 (m_boolI m_bool0 m_bool1))
set_option maxRecDepth 100000 in
set_option maxHeartbeats 4000000 in
theorem pX12_in {G : mG} {d : Nat} {b : Nat × Nat} {h : mH} {Q : Option mV → mH → Prop} {v : Int32} {lo : Int32} {hi : Int32} (K : Q (some (.inl (f_X12_in v lo hi))) h) : mC G kX12_in d b [.inl v, .inl lo, .inl hi] h Q := by
  refine mC_in rfl (Nat.le_of_ble_eq_true rfl) ?_
  show mW _ _ _ _ _ [some (.inl v), some (.inl lo), some (.inl hi)] _ _ _
  unfold f_X12_in at K
  refine mw_iload_n (pc' := 1) dX12_in_0 rfl rfl ?_
  refine mw_iload_n (pc' := 2) dX12_in_1 rfl rfl ?_
  refine mw_icmp_lt (pc' := 5) (tgt := 14) dX12_in_2 rfl (by decide) (fun c1 => ?_) (fun c1 => ?_)
  · refine mw_iconst (pc' := 15) (v := 0) dX12_in_14 rfl (by decide) ?_
    rw [if_pos c1] at K; exact mw_iret dX12_in_15 rfl (m_boolN m_bool0) K
  · refine mw_iload_n (pc' := 6) dX12_in_5 rfl rfl ?_
    refine mw_iload_n (pc' := 7) dX12_in_6 rfl rfl ?_
    refine mw_icmp_gt (pc' := 10) (tgt := 14) dX12_in_7 rfl (by decide) (fun c2 => ?_) (fun c2 => ?_)
    · refine mw_iconst (pc' := 15) (v := 0) dX12_in_14 rfl (by decide) ?_
      rw [if_neg c1, if_pos c2] at K; exact mw_iret dX12_in_15 rfl (m_boolN m_bool0) K
    · refine mw_iconst (pc' := 11) (v := 1) dX12_in_10 rfl (by decide) ?_
      refine mw_goto (tgt := 15) dX12_in_11 (by decide) ?_
      rw [if_neg c1, if_neg c2] at K; exact mw_iret dX12_in_15 rfl (m_boolN m_bool1) K

def f_X12_size (v : Int32) : Int32 := if 0 ≤ v then v else (-v)
set_option maxRecDepth 100000 in
set_option maxHeartbeats 4000000 in
theorem pX12_size {G : mG} {d : Nat} {b : Nat × Nat} {h : mH} {Q : Option mV → mH → Prop} {v : Int32} (K : Q (some (.inl (f_X12_size v))) h) : mC G kX12_size d b [.inl v] h Q := by
  refine mC_in rfl (Nat.le_of_ble_eq_true rfl) ?_
  show mW _ _ _ _ _ [some (.inl v)] _ _ _
  unfold f_X12_size at K
  refine mw_iload_n (pc' := 1) dX12_size_0 rfl rfl ?_
  refine mw_if_ge (pc' := 4) (tgt := 9) dX12_size_1 rfl (by decide) (fun c1 => ?_) (fun c1 => ?_)
  · refine mw_iload_n (pc' := 10) dX12_size_9 rfl rfl ?_
    rw [if_pos c1] at K; exact mw_iret dX12_size_10 rfl rfl K
  · refine mw_iload_n (pc' := 5) dX12_size_4 rfl rfl ?_
    refine mw_ineg (pc' := 6) dX12_size_5 rfl ?_
    refine mw_goto (tgt := 10) dX12_size_6 (by decide) ?_
    rw [if_neg c1] at K; exact mw_iret dX12_size_10 rfl rfl K

def f_X12_isCell (x : Int32) (y : Int32) : Int32 := if x < 0 then 0 else (if 32 ≤ x then 0 else (if y < 0 then 0 else (if 32 ≤ y then 0 else 1)))
theorem fb_X12_isCell (x : Int32) (y : Int32) : m_bool (f_X12_isCell x y) := by unfold f_X12_isCell; exact (m_boolI m_bool0 (m_boolI m_bool0 (m_boolI m_bool0 (m_boolI m_bool0 m_bool1))))
set_option maxRecDepth 100000 in
set_option maxHeartbeats 4000000 in
theorem pX12_isCell {G : mG} {d : Nat} {b : Nat × Nat} {h : mH} {Q : Option mV → mH → Prop} {x : Int32} {y : Int32} (K : Q (some (.inl (f_X12_isCell x y))) h) : mC G kX12_isCell d b [.inl x, .inl y] h Q := by
  refine mC_in rfl (Nat.le_of_ble_eq_true rfl) ?_
  show mW _ _ _ _ _ [some (.inl x), some (.inl y)] _ _ _
  unfold f_X12_isCell at K
  refine mw_iload_n (pc' := 1) dX12_isCell_0 rfl rfl ?_
  refine mw_if_lt (pc' := 4) (tgt := 24) dX12_isCell_1 rfl (by decide) (fun c1 => ?_) (fun c1 => ?_)
  · refine mw_iconst (pc' := 25) (v := 0) dX12_isCell_24 rfl (by decide) ?_
    rw [if_pos c1] at K; exact mw_iret dX12_isCell_25 rfl (m_boolN m_bool0) K
  · refine mw_iload_n (pc' := 5) dX12_isCell_4 rfl rfl ?_
    refine mw_bipush (pc' := 7) (v := 32) dX12_isCell_5 rfl (by decide) ?_
    refine mw_icmp_ge (pc' := 10) (tgt := 24) dX12_isCell_7 rfl (by decide) (fun c2 => ?_) (fun c2 => ?_)
    · refine mw_iconst (pc' := 25) (v := 0) dX12_isCell_24 rfl (by decide) ?_
      rw [if_neg c1, if_pos c2] at K; exact mw_iret dX12_isCell_25 rfl (m_boolN m_bool0) K
    · refine mw_iload_n (pc' := 11) dX12_isCell_10 rfl rfl ?_
      refine mw_if_lt (pc' := 14) (tgt := 24) dX12_isCell_11 rfl (by decide) (fun c3 => ?_) (fun c3 => ?_)
      · refine mw_iconst (pc' := 25) (v := 0) dX12_isCell_24 rfl (by decide) ?_
        rw [if_neg c1, if_neg c2, if_pos c3] at K; exact mw_iret dX12_isCell_25 rfl (m_boolN m_bool0) K
      · refine mw_iload_n (pc' := 15) dX12_isCell_14 rfl rfl ?_
        refine mw_bipush (pc' := 17) (v := 32) dX12_isCell_15 rfl (by decide) ?_
        refine mw_icmp_ge (pc' := 20) (tgt := 24) dX12_isCell_17 rfl (by decide) (fun c4 => ?_) (fun c4 => ?_)
        · refine mw_iconst (pc' := 25) (v := 0) dX12_isCell_24 rfl (by decide) ?_
          rw [if_neg c1, if_neg c2, if_neg c3, if_pos c4] at K; exact mw_iret dX12_isCell_25 rfl (m_boolN m_bool0) K
        · refine mw_iconst (pc' := 21) (v := 1) dX12_isCell_20 rfl (by decide) ?_
          refine mw_goto (tgt := 25) dX12_isCell_21 (by decide) ?_
          rw [if_neg c1, if_neg c2, if_neg c3, if_neg c4] at K; exact mw_iret dX12_isCell_25 rfl (m_boolN m_bool1) K

def f_X12_isDirection (q : Int32) : Int32 := if q < 0 then 0 else (if 4 ≤ q then 0 else 1)
theorem fb_X12_isDirection (q : Int32) : m_bool (f_X12_isDirection q) := by unfold f_X12_isDirection; exact (m_boolI m_bool0 (m_boolI m_bool0 m_bool1))
set_option maxRecDepth 100000 in
set_option maxHeartbeats 4000000 in
theorem pX12_isDirection {G : mG} {d : Nat} {b : Nat × Nat} {h : mH} {Q : Option mV → mH → Prop} {q : Int32} (K : Q (some (.inl (f_X12_isDirection q))) h) : mC G kX12_isDirection d b [.inl q] h Q := by
  refine mC_in rfl (Nat.le_of_ble_eq_true rfl) ?_
  show mW _ _ _ _ _ [some (.inl q)] _ _ _
  unfold f_X12_isDirection at K
  refine mw_iload_n (pc' := 1) dX12_isDirection_0 rfl rfl ?_
  refine mw_if_lt (pc' := 4) (tgt := 13) dX12_isDirection_1 rfl (by decide) (fun c1 => ?_) (fun c1 => ?_)
  · refine mw_iconst (pc' := 14) (v := 0) dX12_isDirection_13 rfl (by decide) ?_
    rw [if_pos c1] at K; exact mw_iret dX12_isDirection_14 rfl (m_boolN m_bool0) K
  · refine mw_iload_n (pc' := 5) dX12_isDirection_4 rfl rfl ?_
    refine mw_iconst (pc' := 6) (v := 4) dX12_isDirection_5 rfl (by decide) ?_
    refine mw_icmp_ge (pc' := 9) (tgt := 13) dX12_isDirection_6 rfl (by decide) (fun c2 => ?_) (fun c2 => ?_)
    · refine mw_iconst (pc' := 14) (v := 0) dX12_isDirection_13 rfl (by decide) ?_
      rw [if_neg c1, if_pos c2] at K; exact mw_iret dX12_isDirection_14 rfl (m_boolN m_bool0) K
    · refine mw_iconst (pc' := 10) (v := 1) dX12_isDirection_9 rfl (by decide) ?_
      refine mw_goto (tgt := 14) dX12_isDirection_10 (by decide) ?_
      rw [if_neg c1, if_neg c2] at K; exact mw_iret dX12_isDirection_14 rfl (m_boolN m_bool1) K

def f_X12_stepX (q : Int32) : Int32 := if ¬ q = 1 then (if ¬ q = 3 then 0 else (-1)) else 1
set_option maxRecDepth 100000 in
set_option maxHeartbeats 4000000 in
theorem pX12_stepX {G : mG} {d : Nat} {b : Nat × Nat} {h : mH} {Q : Option mV → mH → Prop} {q : Int32} (K : Q (some (.inl (f_X12_stepX q))) h) : mC G kX12_stepX d b [.inl q] h Q := by
  refine mC_in rfl (Nat.le_of_ble_eq_true rfl) ?_
  show mW _ _ _ _ _ [some (.inl q)] _ _ _
  unfold f_X12_stepX at K
  refine mw_iload_n (pc' := 1) dX12_stepX_0 rfl rfl ?_
  refine mw_iconst (pc' := 2) (v := 1) dX12_stepX_1 rfl (by decide) ?_
  refine mw_icmp_ne (pc' := 5) (tgt := 9) dX12_stepX_2 rfl (by decide) (fun c1 => ?_) (fun c1 => ?_)
  · refine mw_iload_n (pc' := 10) dX12_stepX_9 rfl rfl ?_
    refine mw_iconst (pc' := 11) (v := 3) dX12_stepX_10 rfl (by decide) ?_
    refine mw_icmp_ne (pc' := 14) (tgt := 18) dX12_stepX_11 rfl (by decide) (fun c2 => ?_) (fun c2 => ?_)
    · refine mw_iconst (pc' := 19) (v := 0) dX12_stepX_18 rfl (by decide) ?_
      rw [if_pos c1, if_pos c2] at K; exact mw_iret dX12_stepX_19 rfl rfl K
    · refine mw_iconst (pc' := 15) (v := (-1)) dX12_stepX_14 rfl (by decide) ?_
      refine mw_goto (tgt := 19) dX12_stepX_15 (by decide) ?_
      rw [if_pos c1, if_neg (fun z => z c2)] at K; exact mw_iret dX12_stepX_19 rfl rfl K
  · refine mw_iconst (pc' := 6) (v := 1) dX12_stepX_5 rfl (by decide) ?_
    refine mw_goto (tgt := 19) dX12_stepX_6 (by decide) ?_
    rw [if_neg (fun z => z c1)] at K; exact mw_iret dX12_stepX_19 rfl rfl K

def f_X12_stepY (q : Int32) : Int32 := if ¬ q = 0 then (if ¬ q = 2 then 0 else (-1)) else 1
set_option maxRecDepth 100000 in
set_option maxHeartbeats 4000000 in
theorem pX12_stepY {G : mG} {d : Nat} {b : Nat × Nat} {h : mH} {Q : Option mV → mH → Prop} {q : Int32} (K : Q (some (.inl (f_X12_stepY q))) h) : mC G kX12_stepY d b [.inl q] h Q := by
  refine mC_in rfl (Nat.le_of_ble_eq_true rfl) ?_
  show mW _ _ _ _ _ [some (.inl q)] _ _ _
  unfold f_X12_stepY at K
  refine mw_iload_n (pc' := 1) dX12_stepY_0 rfl rfl ?_
  refine mw_if_ne (pc' := 4) (tgt := 8) dX12_stepY_1 rfl (by decide) (fun c1 => ?_) (fun c1 => ?_)
  · refine mw_iload_n (pc' := 9) dX12_stepY_8 rfl rfl ?_
    refine mw_iconst (pc' := 10) (v := 2) dX12_stepY_9 rfl (by decide) ?_
    refine mw_icmp_ne (pc' := 13) (tgt := 17) dX12_stepY_10 rfl (by decide) (fun c2 => ?_) (fun c2 => ?_)
    · refine mw_iconst (pc' := 18) (v := 0) dX12_stepY_17 rfl (by decide) ?_
      rw [if_pos c1, if_pos c2] at K; exact mw_iret dX12_stepY_18 rfl rfl K
    · refine mw_iconst (pc' := 14) (v := (-1)) dX12_stepY_13 rfl (by decide) ?_
      refine mw_goto (tgt := 18) dX12_stepY_14 (by decide) ?_
      rw [if_pos c1, if_neg (fun z => z c2)] at K; exact mw_iret dX12_stepY_18 rfl rfl K
  · refine mw_iconst (pc' := 5) (v := 1) dX12_stepY_4 rfl (by decide) ?_
    refine mw_goto (tgt := 18) dX12_stepY_5 (by decide) ?_
    rw [if_neg (fun z => z c1)] at K; exact mw_iret dX12_stepY_18 rfl rfl K

def f_X12_isBetween (v : Int32) (a : Int32) (n_b : Int32) : Int32 := if n_b ≤ a then (if v < n_b then 0 else (if a ≤ v then 0 else 1)) else (if v < a then 0 else (if n_b ≤ v then 0 else 1))
theorem fb_X12_isBetween (v : Int32) (a : Int32) (n_b : Int32) : m_bool (f_X12_isBetween v a n_b) := by unfold f_X12_isBetween; exact (m_boolI (m_boolI m_bool0 (m_boolI m_bool0 m_bool1)) (m_boolI m_bool0 (m_boolI m_bool0 m_bool1)))
set_option maxRecDepth 100000 in
set_option maxHeartbeats 4000000 in
theorem pX12_isBetween {G : mG} {d : Nat} {b : Nat × Nat} {h : mH} {Q : Option mV → mH → Prop} {v : Int32} {a : Int32} {n_b : Int32} (K : Q (some (.inl (f_X12_isBetween v a n_b))) h) : mC G kX12_isBetween d b [.inl v, .inl a, .inl n_b] h Q := by
  refine mC_in rfl (Nat.le_of_ble_eq_true rfl) ?_
  show mW _ _ _ _ _ [some (.inl v), some (.inl a), some (.inl n_b)] _ _ _
  unfold f_X12_isBetween at K
  refine mw_iload_n (pc' := 1) dX12_isBetween_0 rfl rfl ?_
  refine mw_iload_n (pc' := 2) dX12_isBetween_1 rfl rfl ?_
  refine mw_icmp_ge (pc' := 5) (tgt := 23) dX12_isBetween_2 rfl (by decide) (fun c1 => ?_) (fun c1 => ?_)
  · refine mw_iload_n (pc' := 24) dX12_isBetween_23 rfl rfl ?_
    refine mw_iload_n (pc' := 25) dX12_isBetween_24 rfl rfl ?_
    refine mw_icmp_lt (pc' := 28) (tgt := 37) dX12_isBetween_25 rfl (by decide) (fun c2 => ?_) (fun c2 => ?_)
    · refine mw_iconst (pc' := 38) (v := 0) dX12_isBetween_37 rfl (by decide) ?_
      rw [if_pos c1, if_pos c2] at K; exact mw_iret dX12_isBetween_38 rfl (m_boolN m_bool0) K
    · refine mw_iload_n (pc' := 29) dX12_isBetween_28 rfl rfl ?_
      refine mw_iload_n (pc' := 30) dX12_isBetween_29 rfl rfl ?_
      refine mw_icmp_ge (pc' := 33) (tgt := 37) dX12_isBetween_30 rfl (by decide) (fun c3 => ?_) (fun c3 => ?_)
      · refine mw_iconst (pc' := 38) (v := 0) dX12_isBetween_37 rfl (by decide) ?_
        rw [if_pos c1, if_neg c2, if_pos c3] at K; exact mw_iret dX12_isBetween_38 rfl (m_boolN m_bool0) K
      · refine mw_iconst (pc' := 34) (v := 1) dX12_isBetween_33 rfl (by decide) ?_
        refine mw_goto (tgt := 38) dX12_isBetween_34 (by decide) ?_
        rw [if_pos c1, if_neg c2, if_neg c3] at K; exact mw_iret dX12_isBetween_38 rfl (m_boolN m_bool1) K
  · refine mw_iload_n (pc' := 6) dX12_isBetween_5 rfl rfl ?_
    refine mw_iload_n (pc' := 7) dX12_isBetween_6 rfl rfl ?_
    refine mw_icmp_lt (pc' := 10) (tgt := 19) dX12_isBetween_7 rfl (by decide) (fun c4 => ?_) (fun c4 => ?_)
    · refine mw_iconst (pc' := 20) (v := 0) dX12_isBetween_19 rfl (by decide) ?_
      refine mw_goto (tgt := 38) dX12_isBetween_20 (by decide) ?_
      rw [if_neg c1, if_pos c4] at K; exact mw_iret dX12_isBetween_38 rfl (m_boolN m_bool0) K
    · refine mw_iload_n (pc' := 11) dX12_isBetween_10 rfl rfl ?_
      refine mw_iload_n (pc' := 12) dX12_isBetween_11 rfl rfl ?_
      refine mw_icmp_ge (pc' := 15) (tgt := 19) dX12_isBetween_12 rfl (by decide) (fun c5 => ?_) (fun c5 => ?_)
      · refine mw_iconst (pc' := 20) (v := 0) dX12_isBetween_19 rfl (by decide) ?_
        refine mw_goto (tgt := 38) dX12_isBetween_20 (by decide) ?_
        rw [if_neg c1, if_neg c4, if_pos c5] at K; exact mw_iret dX12_isBetween_38 rfl (m_boolN m_bool0) K
      · refine mw_iconst (pc' := 16) (v := 1) dX12_isBetween_15 rfl (by decide) ?_
        refine mw_goto (tgt := 38) dX12_isBetween_16 (by decide) ?_
        rw [if_neg c1, if_neg c4, if_neg c5] at K; exact mw_iret dX12_isBetween_38 rfl (m_boolN m_bool1) K

def f_X12_isCorner (v : Int32) : Int32 := if v < 0 then 0 else (if 33 ≤ v then 0 else 1)
theorem fb_X12_isCorner (v : Int32) : m_bool (f_X12_isCorner v) := by unfold f_X12_isCorner; exact (m_boolI m_bool0 (m_boolI m_bool0 m_bool1))
set_option maxRecDepth 100000 in
set_option maxHeartbeats 4000000 in
theorem pX12_isCorner {G : mG} {d : Nat} {b : Nat × Nat} {h : mH} {Q : Option mV → mH → Prop} {v : Int32} (K : Q (some (.inl (f_X12_isCorner v))) h) : mC G kX12_isCorner d b [.inl v] h Q := by
  refine mC_in rfl (Nat.le_of_ble_eq_true rfl) ?_
  show mW _ _ _ _ _ [some (.inl v)] _ _ _
  unfold f_X12_isCorner at K
  refine mw_iload_n (pc' := 1) dX12_isCorner_0 rfl rfl ?_
  refine mw_if_lt (pc' := 4) (tgt := 14) dX12_isCorner_1 rfl (by decide) (fun c1 => ?_) (fun c1 => ?_)
  · refine mw_iconst (pc' := 15) (v := 0) dX12_isCorner_14 rfl (by decide) ?_
    rw [if_pos c1] at K; exact mw_iret dX12_isCorner_15 rfl (m_boolN m_bool0) K
  · refine mw_iload_n (pc' := 5) dX12_isCorner_4 rfl rfl ?_
    refine mw_bipush (pc' := 7) (v := 33) dX12_isCorner_5 rfl (by decide) ?_
    refine mw_icmp_ge (pc' := 10) (tgt := 14) dX12_isCorner_7 rfl (by decide) (fun c2 => ?_) (fun c2 => ?_)
    · refine mw_iconst (pc' := 15) (v := 0) dX12_isCorner_14 rfl (by decide) ?_
      rw [if_neg c1, if_pos c2] at K; exact mw_iret dX12_isCorner_15 rfl (m_boolN m_bool0) K
    · refine mw_iconst (pc' := 11) (v := 1) dX12_isCorner_10 rfl (by decide) ?_
      refine mw_goto (tgt := 15) dX12_isCorner_11 (by decide) ?_
      rw [if_neg c1, if_neg c2] at K; exact mw_iret dX12_isCorner_15 rfl (m_boolN m_bool1) K

def f_X12_factOf (c : Int32) : Int32 := if c = 98 then 0 else (if c = 100 then 5 else (if c = 104 then 3 else (if c = 107 then 1 else (if c = 110 then 8 else (if c = 113 then 4 else (if c = 114 then 7 else (if c = 115 then 2 else (if c = 117 then 6 else (-1)))))))))
set_option maxRecDepth 100000 in
set_option maxHeartbeats 4000000 in
theorem pX12_factOf {G : mG} {d : Nat} {b : Nat × Nat} {h : mH} {Q : Option mV → mH → Prop} {c : Int32} (K : Q (some (.inl (f_X12_factOf c))) h) : mC G kX12_factOf d b [.inl c] h Q := by
  refine mC_in rfl (Nat.le_of_ble_eq_true rfl) ?_
  show mW _ _ _ _ _ [some (.inl c)] _ _ _
  unfold f_X12_factOf at K
  refine mw_iload_n (pc' := 1) dX12_factOf_0 rfl rfl ?_
  by_cases c1 : c = 98
  · refine mw_tableIn (off := 95) (tgt := 96) dX12_factOf_1 (by rw [c1]; decide) (by rw [c1]; decide) (by rw [c1]; rfl) (by decide) ?_
    refine mw_iconst (pc' := 97) (v := 0) dX12_factOf_96 rfl (by decide) ?_
    rw [if_pos c1] at K; exact mw_iret dX12_factOf_97 rfl rfl K
  by_cases c2 : c = 100
  · refine mw_tableIn (off := 105) (tgt := 106) dX12_factOf_1 (by rw [c2]; decide) (by rw [c2]; decide) (by rw [c2]; rfl) (by decide) ?_
    refine mw_iconst (pc' := 107) (v := 5) dX12_factOf_106 rfl (by decide) ?_
    rw [if_neg c1, if_pos c2] at K; exact mw_iret dX12_factOf_107 rfl rfl K
  by_cases c3 : c = 104
  · refine mw_tableIn (off := 101) (tgt := 102) dX12_factOf_1 (by rw [c3]; decide) (by rw [c3]; decide) (by rw [c3]; rfl) (by decide) ?_
    refine mw_iconst (pc' := 103) (v := 3) dX12_factOf_102 rfl (by decide) ?_
    rw [if_neg c1, if_neg c2, if_pos c3] at K; exact mw_iret dX12_factOf_103 rfl rfl K
  by_cases c4 : c = 107
  · refine mw_tableIn (off := 97) (tgt := 98) dX12_factOf_1 (by rw [c4]; decide) (by rw [c4]; decide) (by rw [c4]; rfl) (by decide) ?_
    refine mw_iconst (pc' := 99) (v := 1) dX12_factOf_98 rfl (by decide) ?_
    rw [if_neg c1, if_neg c2, if_neg c3, if_pos c4] at K; exact mw_iret dX12_factOf_99 rfl rfl K
  by_cases c5 : c = 110
  · refine mw_tableIn (off := 113) (tgt := 114) dX12_factOf_1 (by rw [c5]; decide) (by rw [c5]; decide) (by rw [c5]; rfl) (by decide) ?_
    refine mw_bipush (pc' := 116) (v := 8) dX12_factOf_114 rfl (by decide) ?_
    rw [if_neg c1, if_neg c2, if_neg c3, if_neg c4, if_pos c5] at K; exact mw_iret dX12_factOf_116 rfl rfl K
  by_cases c6 : c = 113
  · refine mw_tableIn (off := 103) (tgt := 104) dX12_factOf_1 (by rw [c6]; decide) (by rw [c6]; decide) (by rw [c6]; rfl) (by decide) ?_
    refine mw_iconst (pc' := 105) (v := 4) dX12_factOf_104 rfl (by decide) ?_
    rw [if_neg c1, if_neg c2, if_neg c3, if_neg c4, if_neg c5, if_pos c6] at K; exact mw_iret dX12_factOf_105 rfl rfl K
  by_cases c7 : c = 114
  · refine mw_tableIn (off := 110) (tgt := 111) dX12_factOf_1 (by rw [c7]; decide) (by rw [c7]; decide) (by rw [c7]; rfl) (by decide) ?_
    refine mw_bipush (pc' := 113) (v := 7) dX12_factOf_111 rfl (by decide) ?_
    rw [if_neg c1, if_neg c2, if_neg c3, if_neg c4, if_neg c5, if_neg c6, if_pos c7] at K; exact mw_iret dX12_factOf_113 rfl rfl K
  by_cases c8 : c = 115
  · refine mw_tableIn (off := 99) (tgt := 100) dX12_factOf_1 (by rw [c8]; decide) (by rw [c8]; decide) (by rw [c8]; rfl) (by decide) ?_
    refine mw_iconst (pc' := 101) (v := 2) dX12_factOf_100 rfl (by decide) ?_
    rw [if_neg c1, if_neg c2, if_neg c3, if_neg c4, if_neg c5, if_neg c6, if_neg c7, if_pos c8] at K; exact mw_iret dX12_factOf_101 rfl rfl K
  by_cases c9 : c = 117
  · refine mw_tableIn (off := 107) (tgt := 108) dX12_factOf_1 (by rw [c9]; decide) (by rw [c9]; decide) (by rw [c9]; rfl) (by decide) ?_
    refine mw_bipush (pc' := 110) (v := 6) dX12_factOf_108 rfl (by decide) ?_
    rw [if_neg c1, if_neg c2, if_neg c3, if_neg c4, if_neg c5, if_neg c6, if_neg c7, if_neg c8, if_pos c9] at K; exact mw_iret dX12_factOf_110 rfl rfl K
  by_cases c10 : (c).toInt < 98 ∨ 117 < (c).toInt
  · refine mw_tableOut (tgt := 117) dX12_factOf_1 c10 (by decide) ?_
    refine mw_iconst (pc' := 118) (v := (-1)) dX12_factOf_117 rfl (by decide) ?_
    rw [if_neg c1, if_neg c2, if_neg c3, if_neg c4, if_neg c5, if_neg c6, if_neg c7, if_neg c8, if_neg c9] at K; exact mw_iret dX12_factOf_118 rfl rfl K
  · rcases (show (c).toInt = 98 ∨ (c).toInt = 99 ∨ (c).toInt = 100 ∨ (c).toInt = 101 ∨ (c).toInt = 102 ∨ (c).toInt = 103 ∨ (c).toInt = 104 ∨ (c).toInt = 105 ∨ (c).toInt = 106 ∨ (c).toInt = 107 ∨ (c).toInt = 108 ∨ (c).toInt = 109 ∨ (c).toInt = 110 ∨ (c).toInt = 111 ∨ (c).toInt = 112 ∨ (c).toInt = 113 ∨ (c).toInt = 114 ∨ (c).toInt = 115 ∨ (c).toInt = 116 ∨ (c).toInt = 117 by omega) with z | z | z | z | z | z | z | z | z | z | z | z | z | z | z | z | z | z | z | z
    · exact absurd (m_sw (z.trans (by decide))) c1
    · refine mw_tableIn (off := 116) (tgt := 117) dX12_factOf_1 (by rw [z]; decide) (by rw [z]; decide) (by rw [z]; rfl) (by decide) ?_
      refine mw_iconst (pc' := 118) (v := (-1)) dX12_factOf_117 rfl (by decide) ?_
      rw [if_neg c1, if_neg c2, if_neg c3, if_neg c4, if_neg c5, if_neg c6, if_neg c7, if_neg c8, if_neg c9] at K; exact mw_iret dX12_factOf_118 rfl rfl K
    · exact absurd (m_sw (z.trans (by decide))) c2
    · refine mw_tableIn (off := 116) (tgt := 117) dX12_factOf_1 (by rw [z]; decide) (by rw [z]; decide) (by rw [z]; rfl) (by decide) ?_
      refine mw_iconst (pc' := 118) (v := (-1)) dX12_factOf_117 rfl (by decide) ?_
      rw [if_neg c1, if_neg c2, if_neg c3, if_neg c4, if_neg c5, if_neg c6, if_neg c7, if_neg c8, if_neg c9] at K; exact mw_iret dX12_factOf_118 rfl rfl K
    · refine mw_tableIn (off := 116) (tgt := 117) dX12_factOf_1 (by rw [z]; decide) (by rw [z]; decide) (by rw [z]; rfl) (by decide) ?_
      refine mw_iconst (pc' := 118) (v := (-1)) dX12_factOf_117 rfl (by decide) ?_
      rw [if_neg c1, if_neg c2, if_neg c3, if_neg c4, if_neg c5, if_neg c6, if_neg c7, if_neg c8, if_neg c9] at K; exact mw_iret dX12_factOf_118 rfl rfl K
    · refine mw_tableIn (off := 116) (tgt := 117) dX12_factOf_1 (by rw [z]; decide) (by rw [z]; decide) (by rw [z]; rfl) (by decide) ?_
      refine mw_iconst (pc' := 118) (v := (-1)) dX12_factOf_117 rfl (by decide) ?_
      rw [if_neg c1, if_neg c2, if_neg c3, if_neg c4, if_neg c5, if_neg c6, if_neg c7, if_neg c8, if_neg c9] at K; exact mw_iret dX12_factOf_118 rfl rfl K
    · exact absurd (m_sw (z.trans (by decide))) c3
    · refine mw_tableIn (off := 116) (tgt := 117) dX12_factOf_1 (by rw [z]; decide) (by rw [z]; decide) (by rw [z]; rfl) (by decide) ?_
      refine mw_iconst (pc' := 118) (v := (-1)) dX12_factOf_117 rfl (by decide) ?_
      rw [if_neg c1, if_neg c2, if_neg c3, if_neg c4, if_neg c5, if_neg c6, if_neg c7, if_neg c8, if_neg c9] at K; exact mw_iret dX12_factOf_118 rfl rfl K
    · refine mw_tableIn (off := 116) (tgt := 117) dX12_factOf_1 (by rw [z]; decide) (by rw [z]; decide) (by rw [z]; rfl) (by decide) ?_
      refine mw_iconst (pc' := 118) (v := (-1)) dX12_factOf_117 rfl (by decide) ?_
      rw [if_neg c1, if_neg c2, if_neg c3, if_neg c4, if_neg c5, if_neg c6, if_neg c7, if_neg c8, if_neg c9] at K; exact mw_iret dX12_factOf_118 rfl rfl K
    · exact absurd (m_sw (z.trans (by decide))) c4
    · refine mw_tableIn (off := 116) (tgt := 117) dX12_factOf_1 (by rw [z]; decide) (by rw [z]; decide) (by rw [z]; rfl) (by decide) ?_
      refine mw_iconst (pc' := 118) (v := (-1)) dX12_factOf_117 rfl (by decide) ?_
      rw [if_neg c1, if_neg c2, if_neg c3, if_neg c4, if_neg c5, if_neg c6, if_neg c7, if_neg c8, if_neg c9] at K; exact mw_iret dX12_factOf_118 rfl rfl K
    · refine mw_tableIn (off := 116) (tgt := 117) dX12_factOf_1 (by rw [z]; decide) (by rw [z]; decide) (by rw [z]; rfl) (by decide) ?_
      refine mw_iconst (pc' := 118) (v := (-1)) dX12_factOf_117 rfl (by decide) ?_
      rw [if_neg c1, if_neg c2, if_neg c3, if_neg c4, if_neg c5, if_neg c6, if_neg c7, if_neg c8, if_neg c9] at K; exact mw_iret dX12_factOf_118 rfl rfl K
    · exact absurd (m_sw (z.trans (by decide))) c5
    · refine mw_tableIn (off := 116) (tgt := 117) dX12_factOf_1 (by rw [z]; decide) (by rw [z]; decide) (by rw [z]; rfl) (by decide) ?_
      refine mw_iconst (pc' := 118) (v := (-1)) dX12_factOf_117 rfl (by decide) ?_
      rw [if_neg c1, if_neg c2, if_neg c3, if_neg c4, if_neg c5, if_neg c6, if_neg c7, if_neg c8, if_neg c9] at K; exact mw_iret dX12_factOf_118 rfl rfl K
    · refine mw_tableIn (off := 116) (tgt := 117) dX12_factOf_1 (by rw [z]; decide) (by rw [z]; decide) (by rw [z]; rfl) (by decide) ?_
      refine mw_iconst (pc' := 118) (v := (-1)) dX12_factOf_117 rfl (by decide) ?_
      rw [if_neg c1, if_neg c2, if_neg c3, if_neg c4, if_neg c5, if_neg c6, if_neg c7, if_neg c8, if_neg c9] at K; exact mw_iret dX12_factOf_118 rfl rfl K
    · exact absurd (m_sw (z.trans (by decide))) c6
    · exact absurd (m_sw (z.trans (by decide))) c7
    · exact absurd (m_sw (z.trans (by decide))) c8
    · refine mw_tableIn (off := 116) (tgt := 117) dX12_factOf_1 (by rw [z]; decide) (by rw [z]; decide) (by rw [z]; rfl) (by decide) ?_
      refine mw_iconst (pc' := 118) (v := (-1)) dX12_factOf_117 rfl (by decide) ?_
      rw [if_neg c1, if_neg c2, if_neg c3, if_neg c4, if_neg c5, if_neg c6, if_neg c7, if_neg c8, if_neg c9] at K; exact mw_iret dX12_factOf_118 rfl rfl K
    · exact absurd (m_sw (z.trans (by decide))) c9

def f_X12_sumSign (c : Int32) : Int32 := if ¬ c = 43 then (if ¬ c = 45 then (if ¬ c = 42 then (if ¬ c = 47 then (if ¬ c = 37 then (-1) else 6) else 5) else 4) else 3) else 2
set_option maxRecDepth 100000 in
set_option maxHeartbeats 4000000 in
theorem pX12_sumSign {G : mG} {d : Nat} {b : Nat × Nat} {h : mH} {Q : Option mV → mH → Prop} {c : Int32} (K : Q (some (.inl (f_X12_sumSign c))) h) : mC G kX12_sumSign d b [.inl c] h Q := by
  refine mC_in rfl (Nat.le_of_ble_eq_true rfl) ?_
  show mW _ _ _ _ _ [some (.inl c)] _ _ _
  unfold f_X12_sumSign at K
  refine mw_iload_n (pc' := 1) dX12_sumSign_0 rfl rfl ?_
  refine mw_bipush (pc' := 3) (v := 43) dX12_sumSign_1 rfl (by decide) ?_
  refine mw_icmp_ne (pc' := 6) (tgt := 10) dX12_sumSign_3 rfl (by decide) (fun c1 => ?_) (fun c1 => ?_)
  · refine mw_iload_n (pc' := 11) dX12_sumSign_10 rfl rfl ?_
    refine mw_bipush (pc' := 13) (v := 45) dX12_sumSign_11 rfl (by decide) ?_
    refine mw_icmp_ne (pc' := 16) (tgt := 20) dX12_sumSign_13 rfl (by decide) (fun c2 => ?_) (fun c2 => ?_)
    · refine mw_iload_n (pc' := 21) dX12_sumSign_20 rfl rfl ?_
      refine mw_bipush (pc' := 23) (v := 42) dX12_sumSign_21 rfl (by decide) ?_
      refine mw_icmp_ne (pc' := 26) (tgt := 30) dX12_sumSign_23 rfl (by decide) (fun c3 => ?_) (fun c3 => ?_)
      · refine mw_iload_n (pc' := 31) dX12_sumSign_30 rfl rfl ?_
        refine mw_bipush (pc' := 33) (v := 47) dX12_sumSign_31 rfl (by decide) ?_
        refine mw_icmp_ne (pc' := 36) (tgt := 40) dX12_sumSign_33 rfl (by decide) (fun c4 => ?_) (fun c4 => ?_)
        · refine mw_iload_n (pc' := 41) dX12_sumSign_40 rfl rfl ?_
          refine mw_bipush (pc' := 43) (v := 37) dX12_sumSign_41 rfl (by decide) ?_
          refine mw_icmp_ne (pc' := 46) (tgt := 51) dX12_sumSign_43 rfl (by decide) (fun c5 => ?_) (fun c5 => ?_)
          · refine mw_iconst (pc' := 52) (v := (-1)) dX12_sumSign_51 rfl (by decide) ?_
            rw [if_pos c1, if_pos c2, if_pos c3, if_pos c4, if_pos c5] at K; exact mw_iret dX12_sumSign_52 rfl rfl K
          · refine mw_bipush (pc' := 48) (v := 6) dX12_sumSign_46 rfl (by decide) ?_
            refine mw_goto (tgt := 52) dX12_sumSign_48 (by decide) ?_
            rw [if_pos c1, if_pos c2, if_pos c3, if_pos c4, if_neg (fun z => z c5)] at K; exact mw_iret dX12_sumSign_52 rfl rfl K
        · refine mw_iconst (pc' := 37) (v := 5) dX12_sumSign_36 rfl (by decide) ?_
          refine mw_goto (tgt := 52) dX12_sumSign_37 (by decide) ?_
          rw [if_pos c1, if_pos c2, if_pos c3, if_neg (fun z => z c4)] at K; exact mw_iret dX12_sumSign_52 rfl rfl K
      · refine mw_iconst (pc' := 27) (v := 4) dX12_sumSign_26 rfl (by decide) ?_
        refine mw_goto (tgt := 52) dX12_sumSign_27 (by decide) ?_
        rw [if_pos c1, if_pos c2, if_neg (fun z => z c3)] at K; exact mw_iret dX12_sumSign_52 rfl rfl K
    · refine mw_iconst (pc' := 17) (v := 3) dX12_sumSign_16 rfl (by decide) ?_
      refine mw_goto (tgt := 52) dX12_sumSign_17 (by decide) ?_
      rw [if_pos c1, if_neg (fun z => z c2)] at K; exact mw_iret dX12_sumSign_52 rfl rfl K
  · refine mw_iconst (pc' := 7) (v := 2) dX12_sumSign_6 rfl (by decide) ?_
    refine mw_goto (tgt := 52) dX12_sumSign_7 (by decide) ?_
    rw [if_neg (fun z => z c1)] at K; exact mw_iret dX12_sumSign_52 rfl rfl K

def f_X12_isAir (hr : Int32) (wi : Int32) : Int32 := if hr < 0 then 0 else (if 24 ≤ hr then 0 else (if wi < 0 then 0 else (if 4 ≤ wi then 0 else 1)))
theorem fb_X12_isAir (hr : Int32) (wi : Int32) : m_bool (f_X12_isAir hr wi) := by unfold f_X12_isAir; exact (m_boolI m_bool0 (m_boolI m_bool0 (m_boolI m_bool0 (m_boolI m_bool0 m_bool1))))
set_option maxRecDepth 100000 in
set_option maxHeartbeats 4000000 in
theorem pX12_isAir {G : mG} {d : Nat} {b : Nat × Nat} {h : mH} {Q : Option mV → mH → Prop} {hr : Int32} {wi : Int32} (K : Q (some (.inl (f_X12_isAir hr wi))) h) : mC G kX12_isAir d b [.inl hr, .inl wi] h Q := by
  refine mC_in rfl (Nat.le_of_ble_eq_true rfl) ?_
  show mW _ _ _ _ _ [some (.inl hr), some (.inl wi)] _ _ _
  unfold f_X12_isAir at K
  refine mw_iload_n (pc' := 1) dX12_isAir_0 rfl rfl ?_
  refine mw_if_lt (pc' := 4) (tgt := 23) dX12_isAir_1 rfl (by decide) (fun c1 => ?_) (fun c1 => ?_)
  · refine mw_iconst (pc' := 24) (v := 0) dX12_isAir_23 rfl (by decide) ?_
    rw [if_pos c1] at K; exact mw_iret dX12_isAir_24 rfl (m_boolN m_bool0) K
  · refine mw_iload_n (pc' := 5) dX12_isAir_4 rfl rfl ?_
    refine mw_bipush (pc' := 7) (v := 24) dX12_isAir_5 rfl (by decide) ?_
    refine mw_icmp_ge (pc' := 10) (tgt := 23) dX12_isAir_7 rfl (by decide) (fun c2 => ?_) (fun c2 => ?_)
    · refine mw_iconst (pc' := 24) (v := 0) dX12_isAir_23 rfl (by decide) ?_
      rw [if_neg c1, if_pos c2] at K; exact mw_iret dX12_isAir_24 rfl (m_boolN m_bool0) K
    · refine mw_iload_n (pc' := 11) dX12_isAir_10 rfl rfl ?_
      refine mw_if_lt (pc' := 14) (tgt := 23) dX12_isAir_11 rfl (by decide) (fun c3 => ?_) (fun c3 => ?_)
      · refine mw_iconst (pc' := 24) (v := 0) dX12_isAir_23 rfl (by decide) ?_
        rw [if_neg c1, if_neg c2, if_pos c3] at K; exact mw_iret dX12_isAir_24 rfl (m_boolN m_bool0) K
      · refine mw_iload_n (pc' := 15) dX12_isAir_14 rfl rfl ?_
        refine mw_iconst (pc' := 16) (v := 4) dX12_isAir_15 rfl (by decide) ?_
        refine mw_icmp_ge (pc' := 19) (tgt := 23) dX12_isAir_16 rfl (by decide) (fun c4 => ?_) (fun c4 => ?_)
        · refine mw_iconst (pc' := 24) (v := 0) dX12_isAir_23 rfl (by decide) ?_
          rw [if_neg c1, if_neg c2, if_neg c3, if_pos c4] at K; exact mw_iret dX12_isAir_24 rfl (m_boolN m_bool0) K
        · refine mw_iconst (pc' := 20) (v := 1) dX12_isAir_19 rfl (by decide) ?_
          refine mw_goto (tgt := 24) dX12_isAir_20 (by decide) ?_
          rw [if_neg c1, if_neg c2, if_neg c3, if_neg c4] at K; exact mw_iret dX12_isAir_24 rfl (m_boolN m_bool1) K

def f_X12_sum (a : Int32) (n_b : Int32) : Int32 := if 1000000000 ≤ a then 1000000000 else (if n_b < 1000000000 then (a + n_b) else 1000000000)
set_option maxRecDepth 100000 in
set_option maxHeartbeats 4000000 in
theorem pX12_sum {G : mG} {d : Nat} {b : Nat × Nat} {h : mH} {Q : Option mV → mH → Prop} {a : Int32} {n_b : Int32} (K : Q (some (.inl (f_X12_sum a n_b))) h) : mC G kX12_sum d b [.inl a, .inl n_b] h Q := by
  refine mC_in rfl (Nat.le_of_ble_eq_true rfl) ?_
  show mW _ _ _ _ _ [some (.inl a), some (.inl n_b)] _ _ _
  unfold f_X12_sum at K
  refine mw_iload_n (pc' := 1) dX12_sum_0 rfl rfl ?_
  refine mw_ldcw (pc' := 4) dX12_sum_1 rfl cnX12_359 ?_
  refine mw_icmp_ge (pc' := 7) (tgt := 14) dX12_sum_4 rfl (by decide) (fun c1 => ?_) (fun c1 => ?_)
  · refine mw_ldcw (pc' := 17) dX12_sum_14 rfl cnX12_359 ?_
    refine mw_goto (tgt := 23) dX12_sum_17 (by decide) ?_
    rw [if_pos c1] at K; exact mw_iret dX12_sum_23 rfl rfl K
  · refine mw_iload_n (pc' := 8) dX12_sum_7 rfl rfl ?_
    refine mw_ldcw (pc' := 11) dX12_sum_8 rfl cnX12_359 ?_
    refine mw_icmp_lt (pc' := 14) (tgt := 20) dX12_sum_11 rfl (by decide) (fun c2 => ?_) (fun c2 => ?_)
    · refine mw_iload_n (pc' := 21) dX12_sum_20 rfl rfl ?_
      refine mw_iload_n (pc' := 22) dX12_sum_21 rfl rfl ?_
      refine mw_iadd (pc' := 23) dX12_sum_22 rfl ?_
      rw [if_neg c1, if_pos c2] at K; exact mw_iret dX12_sum_23 rfl rfl K
    · refine mw_ldcw (pc' := 17) dX12_sum_14 rfl cnX12_359 ?_
      refine mw_goto (tgt := 23) dX12_sum_17 (by decide) ?_
      rw [if_neg c1, if_neg c2] at K; exact mw_iret dX12_sum_23 rfl rfl K

def f_X12_least (a : Int32) (n_b : Int32) : Int32 := if n_b ≤ a then n_b else a
set_option maxRecDepth 100000 in
set_option maxHeartbeats 4000000 in
theorem pX12_least {G : mG} {d : Nat} {b : Nat × Nat} {h : mH} {Q : Option mV → mH → Prop} {a : Int32} {n_b : Int32} (K : Q (some (.inl (f_X12_least a n_b))) h) : mC G kX12_least d b [.inl a, .inl n_b] h Q := by
  refine mC_in rfl (Nat.le_of_ble_eq_true rfl) ?_
  show mW _ _ _ _ _ [some (.inl a), some (.inl n_b)] _ _ _
  unfold f_X12_least at K
  refine mw_iload_n (pc' := 1) dX12_least_0 rfl rfl ?_
  refine mw_iload_n (pc' := 2) dX12_least_1 rfl rfl ?_
  refine mw_icmp_ge (pc' := 5) (tgt := 9) dX12_least_2 rfl (by decide) (fun c1 => ?_) (fun c1 => ?_)
  · refine mw_iload_n (pc' := 10) dX12_least_9 rfl rfl ?_
    rw [if_pos c1] at K; exact mw_iret dX12_least_10 rfl rfl K
  · refine mw_iload_n (pc' := 6) dX12_least_5 rfl rfl ?_
    refine mw_goto (tgt := 10) dX12_least_6 (by decide) ?_
    rw [if_neg c1] at K; exact mw_iret dX12_least_10 rfl rfl K

def f_J1_canEncode_9a6ad (c : Int32) : Int32 := if c < 0 then 0 else (if 255 < c then 0 else 1)
theorem fb_J1_canEncode_9a6ad (c : Int32) : m_bool (f_J1_canEncode_9a6ad c) := by unfold f_J1_canEncode_9a6ad; exact (m_boolI m_bool0 (m_boolI m_bool0 m_bool1))
set_option maxRecDepth 100000 in
set_option maxHeartbeats 4000000 in
theorem pJ1_canEncode_9a6ad {G : mG} {d : Nat} {b : Nat × Nat} {h : mH} {Q : Option mV → mH → Prop} {c : Int32} (K : Q (some (.inl (f_J1_canEncode_9a6ad c))) h) : mC G kJ1_canEncode_9a6ad d b [.inl c] h Q := by
  refine mC_in rfl (Nat.le_of_ble_eq_true rfl) ?_
  show mW _ _ _ _ _ [some (.inl c)] _ _ _
  unfold f_J1_canEncode_9a6ad at K
  refine mw_iload_n (pc' := 1) dJ1_canEncode_9a6ad_0 rfl rfl ?_
  refine mw_if_lt (pc' := 4) (tgt := 15) dJ1_canEncode_9a6ad_1 rfl (by decide) (fun c1 => ?_) (fun c1 => ?_)
  · refine mw_iconst (pc' := 16) (v := 0) dJ1_canEncode_9a6ad_15 rfl (by decide) ?_
    rw [if_pos c1] at K; exact mw_iret dJ1_canEncode_9a6ad_16 rfl (m_boolN m_bool0) K
  · refine mw_iload_n (pc' := 5) dJ1_canEncode_9a6ad_4 rfl rfl ?_
    refine mw_sipush (pc' := 8) (v := 255) dJ1_canEncode_9a6ad_5 rfl (by decide) ?_
    refine mw_icmp_gt (pc' := 11) (tgt := 15) dJ1_canEncode_9a6ad_8 rfl (by decide) (fun c2 => ?_) (fun c2 => ?_)
    · refine mw_iconst (pc' := 16) (v := 0) dJ1_canEncode_9a6ad_15 rfl (by decide) ?_
      rw [if_neg c1, if_pos c2] at K; exact mw_iret dJ1_canEncode_9a6ad_16 rfl (m_boolN m_bool0) K
    · refine mw_iconst (pc' := 12) (v := 1) dJ1_canEncode_9a6ad_11 rfl (by decide) ?_
      refine mw_goto (tgt := 16) dJ1_canEncode_9a6ad_12 (by decide) ?_
      rw [if_neg c1, if_neg c2] at K; exact mw_iret dJ1_canEncode_9a6ad_16 rfl (m_boolN m_bool1) K
