/-! weigh, next (class) -/
theorem anN_odd {W : aW} {D : aDc} {a : Nat} (h : a % 2 = 1 ∨ a = 64) : anN W D a = 0 := by
  unfold anN
  refine (smN_0 _).mpr (fun c _ => (cnt_z 1024).mpr (fun k hk => ?_))
  have : aaB (wC W c) D k a = false := by
    cases hb : aaB (wC W c) D k a with
    | false => rfl
    | true =>
      unfold aaB at hb
      rw [Bool.and_eq_true] at hb
      have tg := (mvB_t.mp hb.1).1
      have eb := ecC_b (C := wC W c) (q := D.2) (x := (tX D k).toNat) (y := (tY D k).toNat) (by have := tg.1; omega) (by have := tg.2; omega)
      have h2 := hb.2
      unfold awB at h2
      rw [if_neg (by omega), decide_eq_true_iff] at h2
      omega
  rw [this, Bool.and_false]
/-- the first of the even ones with the most -/
theorem hi_mx {g : Nat → Nat} {hi : Nat} (h0 : ∀ a, a < 65 → (a % 2 = 1 ∨ a = 64) → g a = 0) (hh : hi < 32) (h1 : ∀ j, j < 32 → g (2 * j) ≤ g (2 * hi)) (h2 : ∀ j, j < hi → g (2 * j) < g (2 * hi)) : mxN g 65 = g (2 * hi) ∧ (0 < g (2 * hi) → wsF g (g (2 * hi)) 65 0 = nI (2 * hi)) := by
  have ub : ∀ a, a < 65 → g a ≤ g (2 * hi) := fun a ha => by
    by_cases q : a % 2 = 1 ∨ a = 64
    · rw [h0 a ha q]; exact Nat.zero_le _
    · have := h1 (a / 2) (by omega)
      rw [show 2 * (a / 2) = a by omega] at this; exact this
  refine ⟨Nat.le_antisymm (mxN_ub 65 ub) (mxN_le 65 _ (by omega)), fun hp => ?_⟩
  have lp : ∀ r a, a + r = 65 → a ≤ 2 * hi → wsF g (g (2 * hi)) r a = nI (2 * hi) := by
    intro r
    induction r with
    | zero => intro a ha hle; omega
    | succ r ih =>
      intro a ha hle
      rw [wsF_s]
      by_cases e : a = 2 * hi
      · rw [if_pos ⟨hp, by rw [e]⟩, e]
      · have hne : ¬ g a = g (2 * hi) := fun t => by
          by_cases q : a % 2 = 1 ∨ a = 64
          · rw [h0 a (by omega) q] at t; omega
          · have := h2 (a / 2) (by omega)
            rw [show 2 * (a / 2) = a by omega] at this; omega
        rw [if_neg (fun t => hne t.2)]
        exact ih (a + 1) (by omega) (by omega)
  exact lp 65 0 (by omega) (by omega)
def weR (h : mH) (W : aW) (CH : aCc) : Prop := mI h 41 4 = nI (stN W) ∧ ∀ j, nxO W CH 6 = some j → mI h 41 5 = nI j ∧ mI h 41 6 = nI (nxM W (CH.2 j)) ∧ (0 < nxM W (CH.2 j) → mI h 41 7 = wsF (anN W (CH.2 j)) (nxM W (CH.2 j)) 65 0)
def weC (h : mH) (W : aW) (CH : aCc) : Prop := (mI h 41 12 = mI h 8 7 → weR h W CH) ∧ stB (mI h 41 12) (mI h 8 7)
def aWe : Nat → Nat → Prop := fun x k => 93 ≤ x ∨ x = 45 ∨ (x = 41 ∧ ((4 ≤ k ∧ k ≤ 7) ∨ k = 12))
section
variable {G : mG} {d : Nat} {b : Nat × Nat} {h : mH} {Q : Option mV → mH → Prop}
theorem c8_takeIfBetter {f : Nat → Nat} {i : Nat} {mo : Int32} (hS : mSk h) (hi : i < 6) (hf : ∀ j, j < 32 → mI h 45 j = nI (f j)) (hb : ∀ j, f j ≤ 8192) (em : mI h 41 6 = mo)
    (K : ∀ hi, hi < 32 → (∀ j, j < 32 → f j ≤ f hi) → (∀ j, j < hi → f j < f hi) → (mo ≤ nI (f hi) → Q none h) ∧ (¬ mo ≤ nI (f hi) → Q none (mSI (mSI (mSI h 41 5 (nI i)) 41 6 (nI (f hi))) 41 7 (nI (2 * hi))))) : mC G kX8_takeIfBetter d b [.inr (some 41), .inl (nI i)] h Q := by
  refine qX8_takeIfBetter _ hS ?_
  have lp : ∀ (r a hi : Nat), a + r = 32 → hi < a → (∀ j, j < a → f j ≤ f hi) → (∀ j, j < hi → f j < f hi) → mW G kX8_takeIfBetter d b 4 [some (.inr (some 41)), some (.inl (nI i)), some (.inl (nI hi)), some (.inl (nI a))] [] h Q := by
    intro r
    induction r with
    | zero =>
      intro a hi ha h1 h2 h3
      have h32 : hi < 32 := by omega
      have vh := vp_in_nI (n := hi) (N := 32) h32 (by omega)
      have K2 := K hi h32 (fun j hj => h2 j (by omega)) h3
      refine qX8_takeIfBetter_4 _ _ _ hS ⟨fun _ => ⟨vh, ?_⟩, fun z => absurd (nI_le (a := 32) (by omega) (by omega)) z⟩
      rw [nI_clamp (show hi < 2 ^ 31 by omega), em, hf hi h32]
      refine ⟨K2.1, fun z h2' e2 => ⟨vh, fun h4 e4 h5 e5 => ?_⟩⟩
      rw [e2, mI_SI_a (by omega), hf hi h32] at e4
      rw [e5, e4, L2, pk_mul]
      exact K2.2 z
    | succ r ih =>
      intro a hi ha h1 h2 h3
      have va := vp_in_nI (n := a) (N := 32) (by omega) (by omega)
      have vh := vp_in_nI (n := hi) (N := 32) (by omega) (by omega)
      have b1 := hb a
      have b2 := hb hi
      refine qX8_takeIfBetter_4 _ _ _ hS ⟨fun z => absurd z (nI_ge (b := 32) (by omega) (by omega)), fun _ => ⟨va, vh, ?_⟩⟩
      rw [nI_clamp (show a < 2 ^ 31 by omega), nI_clamp (show hi < 2 ^ 31 by omega), hf a (by omega), hf hi (by omega), nI_leI (by omega) (by omega), nI_1]
      refine ⟨fun z => ih (a + 1) hi (by omega) (by omega) (fun j hj => ?_) h3, fun z => ih (a + 1) a (by omega) (by omega) (fun j hj => ?_) (fun j hj => ?_)⟩
      · by_cases e : j = a
        · rw [e]; exact z
        · exact h2 j (by omega)
      · by_cases e : j = a
        · rw [e]; exact Nat.le_refl _
        · have := h2 j (by omega); omega
      · have := h2 j hj; omega
  exact lp 31 1 0 (by omega) (by omega) (fun j hj => by rw [show j = 0 by omega]; exact Nat.le_refl _) (fun j hj => by omega)
set_option maxHeartbeats 1000000 in
theorem c8_weigh {W : aW} {I : Nat → Nat} {CH : aCc} (hS : mSk h) (st : cSt h W I) (h0 : 0 < wl W) (hC : chX h CH) (fo : ∀ c, c < wn W → fol h W I c) (wc : weC h W CH)
    (K : ∀ h', mFr2 aWe h h' → cSt h' W I → flK h h' W I → weC h' W CH → weR h' W CH → Q none h') : mC G kX8_weigh (d + 4) b [.inr (some 41), .inr (some 33), .inr (some 28), .inl (mI h 8 7)] h Q := by
  have hn8 := st.1.1.2.1
  have hl12 := st.1.2.2.2.2.2.2.1.2.1
  have hs3 := st.1.2.2.2.2.2.2.2.1.2
  have hM : ∀ D, nxM W D ≤ 8192 := fun D => mxN_ub 65 (fun a _ => anN_le hn8 D a)
  refine qX8_weigh _ hS ⟨fun z h1 e1 => ?_, fun z => K h mFr2.rf st flK.rf wc (wc.1 z)⟩
  have f1 : mFr2 (fun a k => a = 41 ∧ k = 12) h h1 := by rw [e1]; exact mFr2.SI ⟨rfl, rfl⟩
  have s1 : cSt h1 W I := st.ca (f1.wk (fun x k z => by unfold aCa; omega))
  have k1 : flK h h1 W I := flK.lo st.1 f1 (fun x k q z => by omega)
  have hS1 := f1.1.sk hS
  refine c8_countStates (d := d + 1) hS1 s1 h0 (fun c hc => k1 c hc (fo c hc)) (fun h2 f2 e2 => ⟨rfl, f2.1.sk hS1, fun h3 e3 => ?_⟩)
  have f3 : mFr2 (fun a k => a = 41 ∧ (k = 4 ∨ k = 6 ∨ k = 12)) h h3 := ((f1.wk (fun x k z => ⟨z.1, by omega⟩)).tr (f2.wk (fun x k z => ⟨z.1, by omega⟩))).tr (by rw [e3]; exact mFr2.SI ⟨rfl, by omega⟩)
  have s3 : cSt h3 W I := st.ca (f3.wk (fun x k z => by unfold aCa; omega))
  have k3 : flK h h3 W I := flK.lo st.1 f3 (fun x k q z => by omega)
  have e34 : mI h3 41 4 = nI (stN W) := by rw [e3, mI_SI_k (by omega)]; exact e2
  refine mloop (W := fun i h4 => mW G kX8_weigh (d + 4) b 29 [some (.inr (some 41)), some (.inr (some 33)), some (.inr (some 28)), none, some (.inl (nI i)), none, none] [] h4 Q)
    (P := fun i h4 => mI h4 41 12 = mI h 8 7 ∧ mFr2 aWe h h4 ∧ cSt h4 W I ∧ flK h h4 W I ∧ mI h4 41 4 = nI (stN W) ∧ (nxO W CH i = none → mI h4 41 6 = 1000000) ∧ ∀ j, nxO W CH i = some j → mI h4 41 5 = nI j ∧ mI h4 41 6 = nI (nxM W (CH.2 j)) ∧ (0 < nxM W (CH.2 j) → mI h4 41 7 = wsF (anN W (CH.2 j)) (nxM W (CH.2 j)) 65 0)) 6 ?_ ?_ 0 h3 (by omega) ⟨by rw [e3, mI_SI_k (by omega), f2.2 _ _ (by omega), e1, mI_SI_s], f3.wk (fun x k z => by unfold aWe; omega), s3, k3, e34, fun _ => by rw [e3, mI_SI_s], fun j q => by cases q⟩
  · rintro i h4 hi ⟨t4, f4, s4, k4, e4, n4, j4⟩ ih
    have hS4 := f4.1.sk hS
    have hC4 : chX h4 CH := hC.fr f4 (fun z => by unfold aWe at z; omega) (fun a k q1 q2 z => by unfold aWe at z; omega)
    refine qX8_weigh_29 _ hS4 ⟨fun z => absurd z (nI_ge (b := 6) hi (by omega)), fun _ => c8_isTold hS4 hC4 hi ⟨_, rfl, hS4, fun zc => ?_, fun zc => ?_⟩⟩
    · have hcf := b2i_0.mp zc
      have e : nxO W CH (i + 1) = nxO W CH i := bsF_n hcf
      rw [nI_1]
      exact ih h4 ⟨t4, f4, s4, k4, e4, by rw [e]; exact n4, by rw [e]; exact j4⟩
    · have hct : bt CH.1 i = true := by
        cases hb : bt CH.1 i with
        | true => rfl
        | false => exact absurd (b2i_0.mpr hb) zc
      refine j_fill (N := 32) 0 hS4 (skT_45 hS4) (skL_45 hS4) (by omega) (fun h5 f5 c5 => ⟨rfl, f5.1.sk hS4, ?_⟩)
      have hS5 := f5.1.sk hS4
      have s5 : cSt h5 W I := s4.ca (f5.wk (fun x k z => by unfold aCa; omega))
      have k5 : flK h4 h5 W I := flK.lo s4.1 f5 (fun x k q z => by omega)
      refine mloop (W := fun c h6 => mW G kX8_weigh (d + 4) b 56 [some (.inr (some 41)), some (.inr (some 33)), some (.inr (some 28)), none, some (.inl (nI i)), some (.inl (nI c)), none] [] h6 Q)
        (P := fun c h6 => mFr2 (fun x _ => 93 ≤ x ∨ x = 45) h4 h6 ∧ cSt h6 W I ∧ flK h4 h6 W I ∧ ∀ j, j < 32 → mI h6 45 j = nI (smN (fun c => acN W (CH.2 i) c (2 * j)) c)) (wn W) ?_ ?_ 0 h5 (by omega) ⟨f5.wk (fun x k z => Or.inr z), s5, k5, fun j hj => by rw [c5 j hj]; rfl⟩
      · rintro c h6 hc ⟨f6, s6, k6, c6⟩ ih6
        have hS6 := f6.1.sk hS4
        have hC6 : chX h6 CH := hC4.fr f6 (fun z => by omega) (fun a k q1 q2 z => by omega)
        obtain ⟨eR, ta, -⟩ := s6.1.1.2.2 c hc
        have ha := (s6.1.2.1 c hc).1
        refine qX8_weigh_56 _ _ hS6 ⟨fun z => absurd z (by rw [s6.1.1.1]; exact nI_ge hc (by omega)), fun _ => ⟨vp_in_nI (by omega) (by omega), I c, by rw [nI_clamp (by omega)]; exact eR, ta, qX1_rowsAt (I c) _ _ ta hS6 ⟨_, rfl, hS6, ta, ?_⟩⟩⟩
        rw [s6.1.2.2.2.2.2.2.1.1, s6.1.2.2.2.2.2.2.2.1.1, rowsL h0]
        refine c8_tally (d := d) hS6 s6 h0 hC6 hc (k6 c hc (k4 c hc (fo c hc))) hi hct (fun h7 f7 s7 k7 c7 => ⟨rfl, f7.1.sk hS6, by rw [f7.1.2.1]; exact ta, ?_⟩)
        rw [nI_1]
        refine ih6 h7 ⟨f6.tr (f7.wk (fun x k z => by unfold aTa at z; omega)), s7, k6.tr k7, fun j hj => ?_⟩
        rw [c7 j hj, c6 j hj, nI_add]; rfl
      · rintro h6 ⟨f6, s6, k6, c6⟩
        have hS6 := f6.1.sk hS4
        have lo6 : ∀ k, mI h6 41 k = mI h4 41 k := fun k => f6.2 _ _ (fun z => by omega)
        have ef : ∀ j, j < 32 → mI h6 45 j = nI (anN W (CH.2 i) (2 * j)) := fun j hj => by rw [c6 j hj]; rfl
        have f46 : mFr2 aWe h h6 := f4.tr (f6.wk (fun x k z => by unfold aWe; omega))
        refine qX8_weigh_56 _ _ hS6 ⟨fun _ => ?_, fun z => absurd (by rw [s6.1.1.1]; exact nI_le (by omega) (by omega)) z⟩
        refine c8_takeIfBetter (f := fun j => anN W (CH.2 i) (2 * j)) hS6 hi ef (fun j => anN_le hn8 _ _) rfl (fun hh hh32 m1 m2 => ?_)
        obtain ⟨mx1, mx2⟩ := hi_mx (g := anN W (CH.2 i)) (hi := hh) (fun a _ q => anN_odd q) hh32 m1 m2
        have hMi := hM (CH.2 i)
        have eM : nxM W (CH.2 i) = anN W (CH.2 i) (2 * hh) := mx1
        rw [lo6, ← eM]
        refine ⟨fun zl => ⟨rfl, hS6, ?_⟩, fun zl => ⟨rfl, sk_SI (sk_SI (sk_SI hS6)), ?_⟩⟩
        · rw [nI_1]
          refine ih h6 ⟨by rw [lo6]; exact t4, f46, s6, k4.tr k6, by rw [lo6]; exact e4, ?_, ?_⟩
          · have hne : nxO W CH (i + 1) = nxO W CH i := by
              cases ho : nxO W CH i with
              | none =>
                rw [n4 ho] at zl
                exact absurd zl (nI_ge (b := 1000000) (by omega) (by omega))
              | some j =>
                rw [(j4 j ho).2.1, nI_leI (by have := hM (CH.2 j); omega) (by omega)] at zl
                exact (bsF_s hct ho).trans (if_neg (by omega))
            rw [hne, lo6]; exact n4
          · have hne : nxO W CH (i + 1) = nxO W CH i := by
              cases ho : nxO W CH i with
              | none =>
                rw [n4 ho] at zl
                exact absurd zl (nI_ge (b := 1000000) (by omega) (by omega))
              | some j =>
                rw [(j4 j ho).2.1, nI_leI (by have := hM (CH.2 j); omega) (by omega)] at zl
                exact (bsF_s hct ho).trans (if_neg (by omega))
            rw [hne, lo6, lo6, lo6]; exact j4
        · have hne : nxO W CH (i + 1) = some i := by
            cases ho : nxO W CH i with
            | none => exact bsF_0 hct ho
            | some j =>
              rw [(j4 j ho).2.1, nI_leI (by have := hM (CH.2 j); omega) (by omega)] at zl
              exact (bsF_s hct ho).trans (if_pos (by omega))
          rw [nI_1]
          have f7 : mFr2 (fun x k => x = 41 ∧ (5 ≤ k ∧ k ≤ 7)) h6 (mSI (mSI (mSI h6 41 5 (nI i)) 41 6 (nI (nxM W (CH.2 i)))) 41 7 (nI (2 * hh))) := ((mFr2.SI (A := fun x k => x = 41 ∧ (5 ≤ k ∧ k ≤ 7)) ⟨rfl, by omega⟩).tr (mFr2.SI ⟨rfl, by omega⟩)).tr (mFr2.SI ⟨rfl, by omega⟩)
          refine ih _ ⟨by rw [f7.2 _ _ (fun z => by omega), lo6]; exact t4, f46.tr (f7.wk (fun x k z => by unfold aWe; omega)), s6.ca (f7.wk (fun x k z => by unfold aCa; omega)), (k4.tr k6).tr (flK.lo s6.1 f7 (fun x k q z => by omega)), by rw [f7.2 _ _ (fun z => by omega), lo6]; exact e4, fun q => (by rw [hne] at q; cases q), fun j q => ?_⟩
          rw [hne] at q
          cases q
          refine ⟨by rw [mI_SI_k (by omega), mI_SI_k (by omega), mI_SI_s], by rw [mI_SI_k (by omega), mI_SI_s], fun hp => ?_⟩
          rw [mI_SI_s, eM]
          rw [eM] at hp
          exact (mx2 hp).symm
  · rintro h4 ⟨t4, f4, s4, k4, e4, n4, j4⟩
    have wr : weR h4 W CH := ⟨e4, j4⟩
    exact qX8_weigh_29 _ (f4.1.sk hS) ⟨fun _ => K h4 f4 s4 k4 ⟨fun _ => wr, by rw [t4, f4.2 8 7 (by unfold aWe; omega)]; exact wc.2.rf⟩ wr, fun z => absurd (by decide) z⟩
theorem told_ex {CH : aCc} (hb : ∀ i, i < 32 → bt CH.1 i = true → i < 6) (h0 : CH.1 ≠ 0) : ∃ i, i < 6 ∧ bt CH.1 i = true := by
  apply Classical.byContradiction
  intro t
  apply h0
  apply bt_ext
  intro i hi
  rw [bt_0]
  cases hq : bt CH.1 i with
  | false => rfl
  | true => exact absurd ⟨i, hb i hi hq, hq⟩ t
theorem c11_next (v1 : Int32) {W : aW} {I : Nat → Nat} {CH : aCc} (hS : mSk h) (st : cSt h W I) (hC : chX h CH) (sc : suC h W I) (wc : weC h W CH) (K1 : f_X11_within v1 0 3 = 0 → Q (some (.inl (-1))) h) (K2 : ¬ f_X11_within v1 0 3 = 0 → (CH.1 = 0 ∨ wl W = 0) → Q (some (.inl (-2))) h)
    (K3 : ∀ w, w ≤ 3 → v1 = nI w → CH.1 ≠ 0 → 0 < wl W → ∀ h', mFr2 (fun a k => aSu a k ∨ aWe a k) h h' → cSt h' W I → flK h h' W I → suC h' W I → weC h' W CH → mI h' 41 4 = nI (stN W) → (stN W = 0 → Q (some (.inl (-2))) h') ∧ (0 < stN W → Q (some (.inl (nxA W CH w))) h')) : mC G kX11_next (d + 7) b [.inr (some 8), .inl v1] h Q := by
  have hn8 := st.1.1.2.1
  have hl12 := st.1.2.2.2.2.2.2.1.2.1
  have hs8 := stN_le hn8
  refine qX11_next _ hS ⟨fun z1 => ?_, K1⟩
  rw [hC.1, st.1.2.2.2.2.2.2.1.1]
  refine ⟨fun z => K2 z1 (Or.inl z), fun z => ⟨fun z2 => ?_, fun z2 => K2 z1 (Or.inr ?_)⟩⟩
  · have h0 : 0 < wl W := Nat.pos_of_ne_zero (fun e => z2 (by rw [e]; rfl))
    obtain ⟨w, hw, ew⟩ := wi_ex (m := 3) (by omega) z1
    have K := K3 w hw ew z h0
    rw [ew]
    refine c0_survey hS st sc (fun h1 f1 s1 k1 c1 r1 => ⟨rfl, f1.1.sk hS, ?_⟩)
    have hS1 := f1.1.sk hS
    have lo1 : ∀ x k, x < 93 → x ≠ 30 → ¬ aEr x k → x ≠ 33 → x ≠ 35 → x ≠ 36 → mI h1 x k = mI h x k := fun x k q1 q2 q3 q4 q5 q6 => f1.2 _ _ (fun z => by
      unfold aSu aF1 at z
      rcases z with (z | z | z) | z | z | z
      · omega
      · omega
      · exact q3 z
      · omega
      · omega
      · omega)
    have nEr : ∀ x k, (x = 8 ∨ (37 ≤ x ∧ x < 93)) → ¬ aEr x k := fun x k q z => by unfold aEr aEar at z; omega
    have hC1 : chX h1 CH := hC.fr f1 (fun z => by unfold aSu aF1 aEr aEar at z; omega) (fun a k q1 q2 z => by unfold aSu aF1 aEr aEar at z; omega)
    have wc1 : weC h1 W CH := by
      refine ⟨fun q => ?_, by rw [lo1 41 12 (by omega) (by omega) (nEr _ _ (by omega)) (by omega) (by omega) (by omega), lo1 8 7 (by omega) (by omega) (nEr _ _ (by omega)) (by omega) (by omega) (by omega)]; exact wc.2⟩
      rw [lo1 41 12 (by omega) (by omega) (nEr _ _ (by omega)) (by omega) (by omega) (by omega), lo1 8 7 (by omega) (by omega) (nEr _ _ (by omega)) (by omega) (by omega) (by omega)] at q
      obtain ⟨q1, q2⟩ := wc.1 q
      have l41 : ∀ k, mI h1 41 k = mI h 41 k := fun k => lo1 41 k (by omega) (by omega) (nEr _ _ (by omega)) (by omega) (by omega) (by omega)
      exact ⟨by rw [l41]; exact q1, fun j hj => by rw [l41, l41, l41]; exact q2 j hj⟩
    refine c8_weigh (d := d + 2) hS1 s1 h0 hC1 r1.2.1 wc1 (fun h2 f2 s2 k2 c2 r2 => ⟨rfl, f2.1.sk hS1, ?_⟩)
    have suc2 : suC h2 W I := c1.fr f2 k2 (fun z => by unfold aWe at z; omega) (fun z => by unfold aWe at z; omega) (fun z => by unfold aWe at z; omega) (fun k => ⟨fun z => by unfold aWe at z; omega, fun z => by unfold aWe at z; omega⟩)
    have K4 := K h2 ((f1.wk (fun a k z => Or.inl z)).tr (f2.wk (fun a k z => Or.inr z))) s2 (k1.tr k2) suc2 c2 r2.1
    obtain ⟨i, hi, hti⟩ := told_ex hC.2.1 z
    obtain ⟨j, hj, htj, ej⟩ := bsF_ex (M := fun j => nxM W (CH.2 j)) (T := bt CH.1) 6 i hi hti
    have ej' : nxO W CH 6 = some j := ej
    obtain ⟨p1, p2, p3⟩ := r2.2 j ej'
    have hM : nxM W (CH.2 j) ≤ 8192 := mxN_ub 65 (fun a _ => anN_le hn8 _ a)
    rw [r2.1, p1, p2]
    have sz : nI (stN W) = 0 ↔ stN W = 0 := nI_eq (b := 0) (by omega) (by omega)
    have mz : nI (nxM W (CH.2 j)) = 0 ↔ nxM W (CH.2 j) = 0 := nI_eq (b := 0) (by omega) (by omega)
    have w0 : nI w = 0 ↔ w = 0 := nI_eq (b := 0) (by omega) (by omega)
    have w1 : nI w = 1 ↔ w = 1 := nI_eq (b := 1) (by omega) (by omega)
    have w2 : nI w = 2 ↔ w = 2 := nI_eq (b := 2) (by omega) (by omega)
    have ewI : (nI w).toInt = w := nI_toI (by omega)
    rw [sz, mz, w0, w1, w2, ewI]
    refine ⟨fun q => ?_, K4.1⟩
    have K5 := K4.2 (by omega)
    unfold nxA at K5
    rw [ej', oI_s, oI_s, oI_s] at K5
    refine ⟨fun t => ?_, fun t => ?_, fun t => ?_, fun t => ⟨fun m0 => ?_, fun m0 => ?_⟩⟩
    · rw [if_neg (by omega), if_neg (by omega), if_neg (by omega)] at K5; exact K5
    · rw [if_pos t] at K5; exact K5
    · rw [if_neg (by omega), if_pos t] at K5; exact K5
    · rw [if_neg (by omega), if_neg (by omega), if_pos t] at K5
      rw [p3 (by omega)]; exact K5
    · rw [if_neg (by omega), if_neg (by omega), if_pos t, m0] at K5
      have key : ∀ r a, wsF (anN W (CH.2 j)) 0 r a = -2 := by
        intro r
        induction r with
        | zero => intro a; rfl
        | succ r ih => intro a; rw [wsF_s, if_neg (by omega)]; exact ih (a + 1)
      rw [key] at K5; exact K5
  · exact (nI_eq (b := 0) (by omega) (by omega)).mp z2
end
