/-! count -/
noncomputable def fiN (W : aW) : Nat → Int32
  | 0 => 0
  | n + 1 => if wFit W n = true then fiN W n ||| m_shl 1 (nI n) else fiN W n
theorem fiN_b {W : aW} : ∀ n, n ≤ 32 → ∀ i, i < 32 → bt (fiN W n) i = (decide (i < n) && wFit W i)
  | 0, _, i, _ => by show bt 0 i = _; rw [bt_0]; simp
  | n + 1, hn, i, hi => by
    have ih := fiN_b (W := W) n (by omega) i hi
    show bt (if wFit W n = true then fiN W n ||| m_shl 1 (nI n) else fiN W n) i = _
    by_cases q : wFit W n = true
    · rw [if_pos q, bt_setb _ (by omega) hi, ih]
      by_cases e : i = n
      · subst e; rw [q]; simp
      · rw [decide_eq_false e, Bool.or_false, show decide (i < n + 1) = decide (i < n) by rw [decide_eq_decide]; omega]
    · rw [if_neg q, ih]
      by_cases e : i = n
      · subst e
        have : wFit W i = false := by simpa using q
        rw [this]; simp
      · rw [show decide (i < n + 1) = decide (i < n) by rw [decide_eq_decide]; omega]
noncomputable def fiV (W : aW) : Int32 := fiN W (wn W)
theorem fiV_is {W : aW} (hn : wn W ≤ 8) : isFi (fiV W) W := fun i hi => fiN_b (wn W) (by omega) i hi
noncomputable def ctA (W : aW) (nt : Nat) (tv v : Int32) : Int32 := if v = 0 then nI (wn W) else if v = 1 then nI (wm W) else if v = 2 then nI (lwN (wL W)) else if v = 3 then nI nt else if v = 4 then nI (wl W) else if v = 5 then (if wl W = 0 then -1 else nI (jN (wJ W (wl W - 1)))) else if v = 6 then nI (ws W) else if v = 7 then tv else if v = 8 then fiV W else if 10 ≤ v.toInt ∧ v.toInt < 10 + wn W then nI (cN (wC W (v.toInt - 10).toNat)) else -1
theorem ctA_d {W : aW} {nt : Nat} {tv v : Int32} (h : v.toInt < 0 ∨ 8 < v.toInt) : ctA W nt tv v = if 10 ≤ v.toInt ∧ v.toInt < 10 + wn W then nI (cN (wC W (v.toInt - 10).toNat)) else -1 := by
  have ne : ∀ n : Nat, n ≤ 8 → ¬ v = nI n := fun n hn e => by rw [e, nI_toI (by omega)] at h; omega
  unfold ctA
  rw [if_neg (show ¬ v = 0 from ne 0 (by omega)), if_neg (show ¬ v = 1 from ne 1 (by omega)), if_neg (show ¬ v = 2 from ne 2 (by omega)), if_neg (show ¬ v = 3 from ne 3 (by omega)), if_neg (show ¬ v = 4 from ne 4 (by omega)), if_neg (show ¬ v = 5 from ne 5 (by omega)), if_neg (show ¬ v = 6 from ne 6 (by omega)), if_neg (show ¬ v = 7 from ne 7 (by omega)), if_neg (show ¬ v = 8 from ne 8 (by omega))]
section
variable {G : mG} {d : Nat} {b : Nat × Nat} {h : mH} {Q : Option mV → mH → Prop}
theorem c11_count (v1 : Int32) {W : aW} {I : Nat → Nat} {nt : Nat} {tv : Int32} (hS : mSk h) (st : cSt h W I) (sc : suC h W I) (et : mI h 9 1 = nI nt) (ev : mI h 41 3 = tv)
    (K : ∀ h', mFr2 aSu h h' → cSt h' W I → flK h h' W I → suC h' W I → Q (some (.inl (ctA W nt tv v1))) h') : mC G kX11_count (d + 7) b [.inr (some 8), .inl v1] h Q := by
  have hn8 := st.1.1.2.1
  have K0 := K h mFr2.rf st flK.rf sc
  have e1 := st.1.2.2.2.2.2.2.1.1
  have hl12 := st.1.2.2.2.2.2.2.1.2.1
  refine qX11_count v1 hS ⟨fun z => ?_, fun z => ?_, fun z => ?_, fun z => ?_, fun z => ?_, fun z => ?_, fun z => ?_, fun z => ?_, fun z => ?_, fun z => ?_⟩
  · rw [ctA_d z] at K0
    have hw := f_wiZ (v := v1) 10 17 ⟨by omega, by omega⟩ ⟨by omega, by omega⟩
    refine ⟨fun q => ?_, fun q => ?_⟩
    · have := hw.mp q
      rw [if_neg (by omega)] at K0; exact K0
    · have q2 : 10 ≤ v1.toInt ∧ v1.toInt ≤ 17 := Classical.byContradiction (fun t => q (hw.mpr t))
      obtain ⟨m, hm, em⟩ := nI_ex (x := v1) (n := 18) (by omega) (by omega) (by omega)
      have ez : v1 - 10 = iI (v1.toInt - 10) := by rw [ii_of v1, show (10 : Int32) = iI 10 from rfl, ii_sub, ii_toInt (ii_rng v1)]
      have et2 : (v1 - 10).toInt = v1.toInt - 10 := by rw [ez]; exact ii_toInt ⟨by omega, by omega⟩
      refine c0_get (v1 - 10) hS st.1.1 (fun t => ⟨_, rfl, hS, fun _ => ?_, fun y p => (by cases p)⟩) (fun c hc ec => ⟨_, rfl, hS, fun p => (by cases p), fun y p => ?_⟩)
      · rw [et2] at t
        rw [if_neg (by omega)] at K0; exact K0
      · cases p
        have hcz : v1.toInt - 10 = c := by rw [← et2, ec, nI_toI (by omega)]
        rw [if_pos (by omega), hcz] at K0
        obtain ⟨-, ta, hC, -⟩ := st.1.1.2.2 c hc
        rw [hC.1]
        exact ⟨ta, K0⟩
  · subst z; rw [st.1.1.1]; exact K0
  · subst z; rw [st.1.2.2.2.1.1]; exact K0
  · subst z
    obtain ⟨l, l1, l2, l3, -⟩ := st.1.2.2.2.2.1
    refine ⟨l, l2, ?_, by rw [l3]; exact K0⟩
    rcases l1 with q | q
    · rw [q]; exact skT_16 hS
    · rw [q]; exact skT_21 hS
  · subst z; rw [et]; exact K0
  · subst z; rw [e1]; exact K0
  · subst z
    have K5 : Q (some (.inl (if wl W = 0 then -1 else nI (jN (wJ W (wl W - 1)))))) h := K0
    refine qX6_last hS ⟨fun z => ⟨_, rfl, hS, fun _ => ?_, fun y p => (by cases p)⟩, fun z => ?_⟩
    · have : wl W = 0 := by rw [e1, show (0 : Int32) = nI 0 from rfl, nI_leI (by omega) (by omega)] at z; omega
      rw [if_pos this] at K5; exact K5
    · have h0 : 0 < wl W := by
        apply Classical.byContradiction; intro t
        exact z (by rw [e1]; exact nI_le (b := 0) (by omega) (by omega))
      rw [if_neg (by omega)] at K5
      obtain ⟨n, hn⟩ : ∃ n, wl W = n + 1 := ⟨wl W - 1, by omega⟩
      have en : wl W - 1 = n := by omega
      rw [en] at K5
      have e2 : mI h 28 1 - 1 = nI n := by rw [e1, hn]; exact nI_pred n
      obtain ⟨lid, r, lx⟩ := (st.1.2.2.2.2.2.2.1.2.2 n (by omega)).1
      rw [e2, nI_clamp (by omega), r]
      refine ⟨vp_in_nI (by omega) (by omega), _, rfl, hS, fun p => (by cases p), fun y p => ?_⟩
      cases p
      rw [lx.2.2.2.2.2.2.2.1]
      exact ⟨lx.1, K5⟩
  · subst z; rw [st.1.2.2.2.2.2.2.2.1.1]; exact K0
  · subst z; rw [ev]; exact K0
  · subst z
    refine c0_survey hS st sc (fun h1 f1 s1 k1 c1 r1 => ⟨rfl, f1.1.sk hS, ?_⟩)
    have := K h1 f1 s1 k1 c1
    rw [isFi_one r1.1 (fiV_is hn8)]
    exact this
theorem m_count (v1 : Int32) {W : aW} {nt : Nat} {tv : Int32} (hS : mSk h) (hW : mWo h W) (et : mI h 47 12 = nI nt) (ev : mI h 47 52 = tv)
    (K : ∀ h', mFr2 aFi h h' → Q (some (.inl (ctA W nt tv v1))) h') : mC G kX12_count (d + 8) b [.inr (some 47), .inl v1] h Q := by
  have hn8 := hW.1.2.1
  have K0 := K h mFr2.rf
  have e1 := hW.2.2.2.2.1.1
  have hl12 := hW.2.2.2.2.1.2.1
  refine qX12_count v1 hS ⟨fun z => ?_, fun z => ?_, fun z => ?_, fun z => ?_, fun z => ?_, fun z => ?_, fun z => ?_, fun z => ?_, fun z => ?_, fun z => ?_⟩
  · rw [ctA_d z] at K0
    have e9 : 9 + mI h 47 0 = iI (9 + wn W) := by rw [hW.1.1, ii_nat, show (9 : Int32) = iI 9 from rfl, ii_add]
    have hw := f_wiZ (v := v1) 10 (9 + wn W) ⟨by omega, by omega⟩ ⟨by omega, by omega⟩
    rw [e9, f_in_eq]
    refine ⟨fun q => ?_, fun q => ?_⟩
    · have := hw.mp q
      rw [if_neg (by omega)] at K0; exact K0
    · have q2 : 10 ≤ v1.toInt ∧ v1.toInt ≤ 9 + wn W := Classical.byContradiction (fun t => q (hw.mpr t))
      have ez : v1 - 10 = iI (v1.toInt - 10) := by rw [ii_of v1, show (10 : Int32) = iI 10 from rfl, ii_sub, ii_toInt (ii_rng v1)]
      have ez2 : v1 - 10 = nI (v1.toInt - 10).toNat := by rw [ez, ii_nat]; congr 1; omega
      rw [if_pos (by omega)] at K0
      rw [ez2, nI_clamp (by omega), (hW.1.2.2 _ (by omega)).1.1]
      exact ⟨vp_in_nI (by omega) (by omega), K0⟩
  · subst z; rw [hW.1.1]; exact K0
  · subst z; rw [hW.2.1.1]; exact K0
  · subst z; rw [hW.2.2.1.1]; exact K0
  · subst z; rw [et]; exact K0
  · subst z; rw [e1]; exact K0
  · subst z
    have K5 : Q (some (.inl (if wl W = 0 then -1 else nI (jN (wJ W (wl W - 1)))))) h := K0
    refine ⟨fun z => ?_, fun z => ?_⟩
    · have h0 : 0 < wl W := Nat.pos_of_ne_zero (fun e => z (by rw [e1, e]; rfl))
      rw [if_neg (by omega)] at K5
      obtain ⟨n, hn⟩ : ∃ n, wl W = n + 1 := ⟨wl W - 1, by omega⟩
      have en : wl W - 1 = n := by omega
      rw [en] at K5
      have e2 : mI h 47 33 - 1 = nI n := by rw [e1, hn]; exact nI_pred n
      rw [e2, nI_clamp (by omega), (hW.2.2.2.2.1.2.2 n (by omega)).1.2.2.2.2.2.1]
      exact ⟨vp_in_nI (by omega) (by omega), K5⟩
    · rw [e1, show (0 : Int32) = nI 0 from rfl, nI_eq (by omega) (by omega)] at z
      rw [if_pos z] at K5; exact K5
  · subst z; rw [hW.2.2.2.2.2.2.1]; exact K0
  · subst z; rw [ev]; exact K0
  · subst z
    refine m_laysFitting hS hW (fun h1 f1 F1 => ⟨rfl, f1.1.sk hS, ?_⟩)
    have := K h1 f1
    rw [isFi_one F1 (fiV_is hn8)]
    exact this
end
