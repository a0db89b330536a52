/-! two ahead (class) -/
theorem prN_an {W : aW} {D E : aDc} {a e : Nat} : prN W D E a e ≤ anN W D a := by
  unfold prN anN
  refine smN_mono _ (fun c _ => cnt_mono 1024 (fun k _ q => ?_))
  unfold prB at q
  rw [Bool.and_eq_true, Bool.and_eq_true] at q
  rw [q.1, q.2.1]; rfl
theorem prN_odd {W : aW} {D E : aDc} {a e : Nat} (h : e % 2 = 1 ∨ e = 64) : prN W D E a e = 0 := by
  unfold prN
  refine (smN_0 _).mpr (fun c _ => (cnt_z 1024).mpr (fun k hk => ?_))
  have : prB (wC W c) D E k a e = false := by
    cases hb : prB (wC W c) D E k a e with
    | false => rfl
    | true =>
      obtain ⟨m1, m2⟩ := prB_t hb
      unfold prB aaB at hb
      rw [Bool.and_eq_true, Bool.and_eq_true, Bool.and_eq_true] at hb
      have tg := (mvB_t.mp m2).1
      have eb := ecC_b (C := wC W c) (q := E.2) (x := (tX E (mvT D k)).toNat) (y := (tY E (mvT D k)).toNat) (by have := tg.1; omega) (by have := tg.2; omega)
      have h2 := hb.2.2
      unfold awB at h2
      rw [if_neg (by omega), decide_eq_true_iff] at h2
      omega
  rw [this, Bool.and_false]
theorem mx_even {g : Nat → Nat} (h0 : ∀ a, a < 65 → (a % 2 = 1 ∨ a = 64) → g a = 0) : mxN g 65 = mxN (fun j => g (2 * j)) 32 := by
  apply Nat.le_antisymm
  · refine mxN_ub 65 (fun a ha => ?_)
    by_cases q : a % 2 = 1 ∨ a = 64
    · rw [h0 a ha q]; exact Nat.zero_le _
    · have := mxN_le (f := fun j => g (2 * j)) 32 (a / 2) (by omega)
      rw [show 2 * (a / 2) = a by omega] at this; exact this
  · exact mxN_ub 32 (fun j hj => mxN_le 65 _ (by omega))
theorem msN_e (W : aW) (D E : aDc) (a : Nat) : msN W D E a = mxN (fun e => prN W D E a (2 * e)) 32 := mx_even (fun e _ q => prN_odd q)
noncomputable def fcN (W : aW) (CH : aCc) (D : aDc) (a : Nat) : Nat → Nat
  | 0 => 1000000
  | j + 1 => if bt CH.1 j = true then min (fcN W CH D a j) (msN W D (CH.2 j) (2 * a)) else fcN W CH D a j
theorem fcN_s (W : aW) (CH : aCc) (D : aDc) (a j : Nat) : fcN W CH D a (j + 1) = if bt CH.1 j = true then min (fcN W CH D a j) (msN W D (CH.2 j) (2 * a)) else fcN W CH D a j := rfl
theorem fcN_fw (W : aW) (CH : aCc) (D : aDc) (a : Nat) : ∀ j, fcN W CH D a j = min 1000000 (fwN W CH D (2 * a) j)
  | 0 => by show 1000000 = min 1000000 FARn; unfold FARn; omega
  | j + 1 => by
    rw [fcN_s, fwN_s, fcN_fw W CH D a j]
    split <;> omega
theorem fw_0 {W : aW} {CH : aCc} {D : aDc} {a j : Nat} (ht : bt CH.1 j = true) (h0 : anN W D a = 0) : ∀ n, j < n → fwN W CH D a n = 0
  | n + 1, h => by
    rw [fwN_s]
    have hm : msN W D (CH.2 n) a = 0 := by
      have : msN W D (CH.2 n) a ≤ 0 := mxN_ub 65 (fun e _ => by have := prN_an (W := W) (D := D) (E := CH.2 n) (a := a) (e := e); omega)
      omega
    by_cases e : j = n
    · subst e; rw [if_pos ht, hm]; omega
    · rw [fw_0 ht h0 n (by omega)]
      split <;> omega
theorem sy_fc {W : aW} {CH : aCc} {D : aDc} {j : Nat} (hn : wn W ≤ 8) (hj : j < 6) (ht : bt CH.1 j = true) : mxN (fun a => fcN W CH D a 6) 32 = syN W CH D := by
  have e6 : ∀ a, fcN W CH D a 6 = fwN W CH D (2 * a) 6 := fun a => by
    rw [fcN_fw]
    have := fwN_t hn (D := D) (a := 2 * a) ht 6 hj
    omega
  rw [mxN_cong (g := fun a => fwN W CH D (2 * a) 6) 32 (fun a _ => e6 a)]
  have h1 : ∀ n, n ≤ 65 → syF W CH D n ≤ mxN (fun a => fwN W CH D (2 * a) 6) 32 := by
    intro n
    induction n with
    | zero => intro _; exact Nat.zero_le _
    | succ n ih =>
      intro hn2
      have ih2 := ih (by omega)
      rw [syF_s]
      by_cases q : anN W D n = 0
      · rw [if_pos q]; exact ih2
      · rw [if_neg q]
        have hev : ¬ (n % 2 = 1 ∨ n = 64) := fun t => q (anN_odd t)
        have := mxN_le (f := fun a => fwN W CH D (2 * a) 6) 32 (n / 2) (by omega)
        rw [show 2 * (n / 2) = n by omega] at this
        omega
  have h2 : ∀ n a, a < n → anN W D a ≠ 0 → fwN W CH D a 6 ≤ syF W CH D n := by
    intro n
    induction n with
    | zero => intro a ha; omega
    | succ n ih =>
      intro a ha hne
      rw [syF_s]
      by_cases e : a = n
      · subst e; rw [if_neg hne]; omega
      · have := ih a (by omega) hne
        split <;> omega
  refine Nat.le_antisymm (mxN_ub 32 (fun a ha => ?_)) (h1 65 (Nat.le_refl _))
  by_cases q : anN W D (2 * a) = 0
  · rw [fw_0 ht q 6 hj]; exact Nat.zero_le _
  · exact h2 65 (2 * a) (by omega) q
def w2R (h : mH) (W : aW) (CH : aCc) : Prop := mI h 41 4 = nI (stN W) ∧ ∀ j, ahO W CH 6 = some j → mI h 41 8 = nI j ∧ mI h 41 9 = nI (syN W CH (CH.2 j))
def w2C (h : mH) (W : aW) (CH : aCc) : Prop := (mI h 41 13 = mI h 8 7 → w2R h W CH) ∧ stB (mI h 41 13) (mI h 8 7)
def aW2 : Nat → Nat → Prop := fun x k => 93 ≤ x ∨ x = 45 ∨ x = 46 ∨ (x = 41 ∧ (k = 4 ∨ k = 8 ∨ k = 9 ∨ k = 13))
def aSb : Nat → Nat → Prop := fun x _ => 93 ≤ x ∨ x = 45 ∨ x = 46
section
variable {G : mG} {d : Nat} {b : Nat × Nat} {h : mH} {Q : Option mV → mH → Prop}
theorem c8_mostBehind {f : Nat → Nat} {a : Nat} (hS : mSk h) (ha : a < 32) (hf : ∀ e, e < 32 → mI h 46 (32 * a + e) = nI (f e)) (hb : ∀ e, f e ≤ 8192) (K : Q (some (.inl (nI (mxN f 32)))) h) : mC G kX8_mostBehind (d + 1) b [.inr (some 41), .inl (nI a)] h Q := by
  refine qX8_mostBehind _ hS ?_
  refine mloop (W := fun e h3 => mW G kX8_mostBehind (d + 1) b 4 [some (.inr (some 41)), some (.inl (nI a)), some (.inl (nI (mxN f e))), some (.inl (nI e))] [] h3 Q) (P := fun e h3 => h3 = h) 32 ?_ ?_ 0 h (by omega) rfl
  · rintro e h3 he rfl ih
    have hm := mxN_ub (f := f) (M := 8192) e (fun i _ => hb i)
    have h1 := hb e
    have ih2 := ih h3 rfl
    rw [mxN_s] at ih2
    have ei : nI a * 32 + nI e = nI (32 * a + e) := by rw [L32, pk_mul, nI_add, Nat.mul_comm]
    refine qX8_mostBehind_4 _ _ _ hS ⟨fun z => absurd z (nI_ge (b := 32) he (by omega)), fun _ => ?_⟩
    rw [ei, nI_clamp (show 32 * a + e < 2 ^ 31 by omega), hf e he, fmax_n (by omega) (by omega), nI_1]
    exact ⟨vp_in_nI (by omega) (by omega), ih2⟩
  · rintro h3 rfl
    exact qX8_mostBehind_4 _ _ _ hS ⟨fun _ => K, fun z => absurd (by decide) z⟩
set_option maxHeartbeats 2000000 in
theorem c8_staysBehind {W : aW} {I : Nat → Nat} {CH : aCc} {i : Nat} (hS : mSk h) (st : cSt h W I) (h0 : 0 < wl W) (hC : chX h CH) (fo : ∀ c, c < wn W → fol h W I c) (hi : i < 6) (ht : bt CH.1 i = true)
    (K : ∀ h', mFr2 aSb h h' → cSt h' W I → flK h h' W I → Q (some (.inl (nI (syN W CH (CH.2 i))))) h') : mC G kX8_staysBehind (d + 4) b [.inr (some 41), .inr (some 33), .inr (some 28), .inl (nI i)] h Q := by
  have hn8 := st.1.1.2.1
  have hl12 := st.1.2.2.2.2.2.2.1.2.1
  have hs3 := st.1.2.2.2.2.2.2.2.1.2
  obtain ⟨D, hD⟩ : ∃ D, D = CH.2 i := ⟨_, rfl⟩
  rw [← hD] at K
  refine qX8_staysBehind _ hS (j_fill (N := 32) 1000000 hS (skT_45 hS) (skL_45 hS) (by omega) (fun h1 f1 c1 => ⟨rfl, f1.1.sk hS, ?_⟩))
  have fcb : ∀ a j, fcN W CH D a j ≤ 1000000 := fun a j => by rw [fcN_fw]; omega
  refine mloop (W := fun j h2 => mW G kX8_staysBehind (d + 4) b 12 [some (.inr (some 41)), some (.inr (some 33)), some (.inr (some 28)), some (.inl (nI i)), some (.inl (nI j)), none, none] [] h2 Q)
    (P := fun j h2 => mFr2 aSb h h2 ∧ cSt h2 W I ∧ flK h h2 W I ∧ ∀ a, a < 32 → mI h2 45 a = nI (fcN W CH D a j)) 6 ?_ ?_ 0 h1 (by omega) ⟨f1.wk (fun x k z => Or.inr (Or.inl z)), st.ca (f1.wk (fun x k z => by unfold aCa; omega)), flK.lo st.1 f1 (fun x k q z => by omega), fun a ha => by rw [c1 a ha]; rfl⟩
  · rintro j h2 hj ⟨f2, s2, k2, c2⟩ ih
    have hS2 := f2.1.sk hS
    have hC2 : chX h2 CH := hC.fr f2 (fun z => by unfold aSb at z; omega) (fun a k q1 q2 z => by unfold aSb at z; omega)
    refine qX8_staysBehind_12 _ _ hS2 ⟨fun z => absurd z (nI_ge (b := 6) hj (by omega)), fun _ => c8_isTold hS2 hC2 hj ⟨_, rfl, hS2, fun zc => ?_, fun zc => ?_⟩⟩
    · have hf := b2i_0.mp zc
      rw [nI_1]
      exact ih h2 ⟨f2, s2, k2, fun a ha => by rw [fcN_s, if_neg (by rw [hf]; decide)]; exact c2 a ha⟩
    · have htj : bt CH.1 j = true := by
        cases hb : bt CH.1 j with
        | true => rfl
        | false => exact absurd (b2i_0.mpr hb) zc
      refine j_fill (N := 1024) 0 hS2 (skT_46 hS2) (skL_46 hS2) (by omega) (fun h3 f3 c3 => ⟨rfl, f3.1.sk hS2, ?_⟩)
      have hS3 := f3.1.sk hS2
      have s3 : cSt h3 W I := s2.ca (f3.wk (fun x k z => by unfold aCa; omega))
      have k3 : flK h2 h3 W I := flK.lo s2.1 f3 (fun x k q z => by omega)
      refine mloop (W := fun c h4 => mW G kX8_staysBehind (d + 4) b 39 [some (.inr (some 41)), some (.inr (some 33)), some (.inr (some 28)), some (.inl (nI i)), some (.inl (nI j)), some (.inl (nI c)), none] [] h4 Q)
        (P := fun c h4 => mFr2 (fun x _ => 93 ≤ x ∨ x = 46) h2 h4 ∧ cSt h4 W I ∧ flK h2 h4 W I ∧ ∀ a e, a < 32 → e < 32 → mI h4 46 (32 * a + e) = nI (smN (fun c => pcN W D (CH.2 j) c (2 * a) (2 * e)) c)) (wn W) ?_ ?_ 0 h3 (by omega) ⟨f3.wk (fun x k z => Or.inr z), s3, k3, fun a e ha he => by rw [c3 _ (by omega)]; rfl⟩
      · rintro c h4 hc ⟨f4, s4, k4, c4⟩ ih4
        have hS4 := f4.1.sk hS2
        have hC4 : chX h4 CH := hC2.fr f4 (fun z => by omega) (fun a k q1 q2 z => by omega)
        obtain ⟨eR, ta, -⟩ := s4.1.1.2.2 c hc
        have ha := (s4.1.2.1 c hc).1
        refine qX8_staysBehind_39 _ _ _ hS4 ⟨fun z => absurd z (by rw [s4.1.1.1]; exact nI_ge hc (by omega)), fun _ => ⟨vp_in_nI (by omega) (by omega), I c, by rw [nI_clamp (by omega)]; exact eR, ta, qX1_rowsAt (I c) _ _ ta hS4 ⟨_, rfl, hS4, ta, ?_⟩⟩⟩
        rw [s4.1.2.2.2.2.2.2.1.1, s4.1.2.2.2.2.2.2.2.1.1, rowsL h0]
        refine c8_tallyPairs (d := d) hS4 s4 h0 hC4 hc (k4 c hc (k2 c hc (fo c hc))) hi ht hj htj (fun h5 f5 s5 k5 c5 => ⟨rfl, f5.1.sk hS4, by rw [f5.1.2.1]; exact ta, ?_⟩)
        rw [nI_1]
        refine ih4 h5 ⟨f4.tr (f5.wk (fun x k z => by unfold aTp at z; omega)), s5, k4.tr k5, fun a e ha he => ?_⟩
        rw [c5 a e ha he, c4 a e ha he, nI_add, ← hD]; rfl
      · rintro h4 ⟨f4, s4, k4, c4⟩
        have hS4 := f4.1.sk hS2
        have ep : ∀ a e, a < 32 → e < 32 → mI h4 46 (32 * a + e) = nI (prN W D (CH.2 j) (2 * a) (2 * e)) := fun a e ha he => by rw [c4 a e ha he]; rfl
        have f24 : mFr2 aSb h h4 := f2.tr (f4.wk (fun x k z => by unfold aSb; omega))
        refine qX8_staysBehind_39 _ _ _ hS4 ⟨fun _ => ?_, fun z => absurd (by rw [s4.1.1.1]; exact nI_le (by omega) (by omega)) z⟩
        refine mloop (W := fun a h5 => mW G kX8_staysBehind (d + 4) b 90 [some (.inr (some 41)), some (.inr (some 33)), some (.inr (some 28)), some (.inl (nI i)), some (.inl (nI j)), some (.inl (nI a)), none] [] h5 Q)
          (P := fun a h5 => mFr2 (fun x _ => x = 45) h4 h5 ∧ ∀ a', a' < 32 → mI h5 45 a' = nI (if a' < a then fcN W CH D a' (j + 1) else fcN W CH D a' j)) 32 ?_ ?_ 0 h4 (by omega) ⟨mFr2.rf, fun a' ha' => by rw [if_neg (by omega), f4.2 _ _ (fun z => by omega)]; exact c2 a' ha'⟩
        · rintro a h5 ha ⟨f5, c5⟩ ih5
          have hS5 := f5.1.sk hS4
          have va := vp_in_nI (n := a) (N := 32) ha (by omega)
          refine qX8_staysBehind_90 _ _ _ hS5 ⟨fun z => absurd z (nI_ge (b := 32) ha (by omega)), fun _ => ⟨va, ?_⟩⟩
          refine c8_mostBehind (d := d + 2) (f := fun e => prN W D (CH.2 j) (2 * a) (2 * e)) hS5 ha (fun e he => by rw [f5.2 _ _ (fun z => by omega)]; exact ep a e ha he) (fun e => prN_le hn8 _ _ _ _) ⟨_, rfl, hS5, va, fun h6 e6 => ?_⟩
          have hm := msN_le hn8 D (CH.2 j) (2 * a)
          have hfb := fcb a j
          rw [nI_clamp (show a < 2 ^ 31 by omega), c5 a ha, if_neg (by omega), ← msN_e, fmin_n (by omega) (by omega)] at e6
          rw [nI_1, e6]
          refine ih5 _ ⟨f5.tr (mFr2.SI rfl), fun a' ha' => ?_⟩
          by_cases e : a' = a
          · rw [e, mI_SI_s, if_pos (by omega), fcN_s, if_pos htj]
          · rw [mI_SI_k e, c5 a' ha']
            by_cases q : a' < a
            · rw [if_pos q, if_pos (by omega)]
            · rw [if_neg q, if_neg (by omega)]
        · rintro h5 ⟨f5, c5⟩
          refine qX8_staysBehind_90 _ _ _ (f5.1.sk hS4) ⟨fun _ => ?_, fun z => absurd (by decide) z⟩
          rw [nI_1]
          refine ih h5 ⟨f24.tr (f5.wk (fun x k z => by unfold aSb; omega)), s4.ca (f5.wk (fun x k z => by unfold aCa; omega)), (k2.tr k4).tr (flK.lo s4.1 f5 (fun x k q z => by omega)), fun a ha => ?_⟩
          rw [c5 a ha, if_pos ha]
  · rintro h2 ⟨f2, s2, k2, c2⟩
    have hS2 := f2.1.sk hS
    refine qX8_staysBehind_12 _ _ hS2 ⟨fun _ => ?_, fun z => absurd (by decide) z⟩
    have K2 := K h2 f2 s2 k2
    rw [← sy_fc hn8 hi ht] at K2
    refine mloop (W := fun a h3 => mW G kX8_staysBehind (d + 4) b 138 [some (.inr (some 41)), none, none, none, some (.inl (nI (mxN (fun a => fcN W CH D a 6) a))), some (.inl (nI a)), none] [] h3 Q) (P := fun a h3 => h3 = h2) 32 ?_ ?_ 0 h2 (by omega) rfl
    · rintro a h3 ha rfl ih
      have hm := mxN_ub (f := fun a => fcN W CH D a 6) (M := 1000000) a (fun a _ => fcb a 6)
      have hb := fcb a 6
      have ih2 := ih h3 rfl
      rw [mxN_s] at ih2
      refine qX8_staysBehind_138 _ _ hS2 ⟨fun z => absurd z (nI_ge (b := 32) ha (by omega)), fun _ => ⟨vp_in_nI ha (by omega), ?_⟩⟩
      rw [nI_clamp (show a < 2 ^ 31 by omega), c2 a ha, fmax_n (by omega) (by omega), nI_1]
      exact ih2
    · rintro h3 rfl
      exact qX8_staysBehind_138 _ _ hS2 ⟨fun _ => K2, fun z => absurd (by decide) z⟩
set_option maxHeartbeats 1000000 in
theorem c8_weighTwo {W : aW} {I : Nat → Nat} {CH : aCc} (hS : mSk h) (st : cSt h W I) (h0 : 0 < wl W) (hC : chX h CH) (fo : ∀ c, c < wn W → fol h W I c) (wc : w2C h W CH)
    (K : ∀ h', mFr2 aW2 h h' → cSt h' W I → flK h h' W I → w2C h' W CH → w2R h' W CH → Q none h') : mC G kX8_weighTwo (d + 5) b [.inr (some 41), .inr (some 33), .inr (some 28), .inl (mI h 8 7)] h Q := by
  have hn8 := st.1.1.2.1
  refine qX8_weighTwo _ hS ⟨fun z h1 e1 => ?_, fun z => K h mFr2.rf st flK.rf wc (wc.1 z)⟩
  have f1 : mFr2 (fun a k => a = 41 ∧ k = 13) h h1 := by rw [e1]; exact mFr2.SI ⟨rfl, rfl⟩
  have s1 : cSt h1 W I := st.ca (f1.wk (fun x k z => by unfold aCa; omega))
  have k1 : flK h h1 W I := flK.lo st.1 f1 (fun x k q z => by omega)
  have hS1 := f1.1.sk hS
  refine c8_countStates (d := d + 2) hS1 s1 h0 (fun c hc => k1 c hc (fo c hc)) (fun h2 f2 e2 => ⟨rfl, f2.1.sk hS1, fun h3 e3 => ?_⟩)
  have f3 : mFr2 (fun a k => a = 41 ∧ (k = 4 ∨ k = 9 ∨ k = 13)) h h3 := ((f1.wk (fun x k z => ⟨z.1, by omega⟩)).tr (f2.wk (fun x k z => ⟨z.1, by omega⟩))).tr (by rw [e3]; exact mFr2.SI ⟨rfl, by omega⟩)
  have s3 : cSt h3 W I := st.ca (f3.wk (fun x k z => by unfold aCa; omega))
  have k3 : flK h h3 W I := flK.lo st.1 f3 (fun x k q z => by omega)
  have e34 : mI h3 41 4 = nI (stN W) := by rw [e3, mI_SI_k (by omega)]; exact e2
  refine mloop (W := fun i h4 => mW G kX8_weighTwo (d + 5) b 29 [some (.inr (some 41)), some (.inr (some 33)), some (.inr (some 28)), none, some (.inl (nI i)), none] [] h4 Q)
    (P := fun i h4 => mI h4 41 13 = mI h 8 7 ∧ mFr2 aW2 h h4 ∧ cSt h4 W I ∧ flK h h4 W I ∧ mI h4 41 4 = nI (stN W) ∧ (ahO W CH i = none → mI h4 41 9 = 1000000) ∧ ∀ j, ahO W CH i = some j → mI h4 41 8 = nI j ∧ mI h4 41 9 = nI (syN W CH (CH.2 j))) 6 ?_ ?_ 0 h3 (by omega) ⟨by rw [e3, mI_SI_k (by omega), f2.2 _ _ (by omega), e1, mI_SI_s], f3.wk (fun x k z => by unfold aW2; omega), s3, k3, e34, fun _ => by rw [e3, mI_SI_s], fun j q => by cases q⟩
  · rintro i h4 hi ⟨t4, f4, s4, k4, e4, n4, j4⟩ ih
    have hS4 := f4.1.sk hS
    have hC4 : chX h4 CH := hC.fr f4 (fun z => by unfold aW2 at z; omega) (fun a k q1 q2 z => by unfold aW2 at z; omega)
    refine qX8_weighTwo_29 _ hS4 ⟨fun z => absurd z (nI_ge (b := 6) hi (by omega)), fun _ => c8_isTold hS4 hC4 hi ⟨_, rfl, hS4, fun zc => ?_, fun zc => ?_⟩⟩
    · have hcf := b2i_0.mp zc
      have e : ahO W CH (i + 1) = ahO W CH i := bsF_n hcf
      rw [nI_1]
      exact ih h4 ⟨t4, f4, s4, k4, e4, by rw [e]; exact n4, by rw [e]; exact j4⟩
    · have hct : bt CH.1 i = true := by
        cases hb : bt CH.1 i with
        | true => rfl
        | false => exact absurd (b2i_0.mpr hb) zc
      have hM : ∀ D, syN W CH D ≤ 8192 := fun D => syF_le hn8 hi hct 65
      refine c8_staysBehind (d := d) hS4 s4 h0 hC4 (fun c hc => k4 c hc (fo c hc)) hi hct (fun h5 f5 s5 k5 => ⟨_, rfl, f5.1.sk hS4, ?_⟩)
      have lo5 : ∀ k, mI h5 41 k = mI h4 41 k := fun k => f5.2 _ _ (fun z => by unfold aSb at z; omega)
      have f45 : mFr2 aW2 h h5 := f4.tr (f5.wk (fun x k z => by unfold aSb at z; unfold aW2; omega))
      have hMi := hM (CH.2 i)
      rw [lo5]
      refine ⟨fun zl => ?_, fun zl h6 e6 h7 e7 => ?_⟩
      · have hne : ahO W CH (i + 1) = ahO W CH i := by
          cases ho : ahO W CH i with
          | none =>
            rw [n4 ho] at zl
            exact absurd zl (nI_ge (b := 1000000) (by omega) (by omega))
          | some j =>
            rw [(j4 j ho).2, nI_leI (by have := hM (CH.2 j); omega) (by omega)] at zl
            exact (bsF_s hct ho).trans (if_neg (by omega))
        rw [nI_1]
        refine ih h5 ⟨by rw [lo5]; exact t4, f45, s5, k4.tr k5, by rw [lo5]; exact e4, by rw [hne, lo5]; exact n4, ?_⟩
        rw [hne, lo5, lo5]; exact j4
      · have hne : ahO W CH (i + 1) = some i := by
          cases ho : ahO W CH i with
          | none => exact bsF_0 hct ho
          | some j =>
            rw [(j4 j ho).2, nI_leI (by have := hM (CH.2 j); omega) (by omega)] at zl
            exact (bsF_s hct ho).trans (if_pos (by omega))
        rw [nI_1]
        have f7 : mFr2 (fun x k => x = 41 ∧ (k = 8 ∨ k = 9)) h5 h7 := by
          rw [e7, e6]
          exact (mFr2.SI (A := fun x k => x = 41 ∧ (k = 8 ∨ k = 9)) ⟨rfl, by omega⟩).tr (mFr2.SI ⟨rfl, by omega⟩)
        refine ih h7 ⟨by rw [f7.2 _ _ (fun z => by omega), lo5]; exact t4, f45.tr (f7.wk (fun x k z => by unfold aW2; omega)), s5.ca (f7.wk (fun x k z => by unfold aCa; omega)), (k4.tr k5).tr (flK.lo s5.1 f7 (fun x k q z => by omega)), by rw [f7.2 _ _ (fun z => by omega), lo5]; exact e4, fun q => (by rw [hne] at q; cases q), fun j q => ?_⟩
        rw [hne] at q
        cases q
        exact ⟨by rw [e7, mI_SI_s], by rw [e7, mI_SI_k (by omega), e6, mI_SI_s]⟩
  · rintro h4 ⟨t4, f4, s4, k4, e4, n4, j4⟩
    have wr : w2R h4 W CH := ⟨e4, j4⟩
    exact qX8_weighTwo_29 _ (f4.1.sk hS) ⟨fun _ => K h4 f4 s4 k4 ⟨fun _ => wr, by rw [t4, f4.2 8 7 (by unfold aW2; omega)]; exact wc.2.rf⟩ wr, fun z => absurd (by decide) z⟩
theorem c11_ahead (v1 : Int32) {W : aW} {I : Nat → Nat} {CH : aCc} (hS : mSk h) (st : cSt h W I) (hC : chX h CH) (sc : suC h W I) (wc : w2C h W CH) (K1 : f_X11_within v1 0 1 = 0 → Q (some (.inl (-1))) h) (K2 : ¬ f_X11_within v1 0 1 = 0 → (CH.1 = 0 ∨ wl W = 0) → Q (some (.inl (-2))) h)
    (K3 : ∀ w, w ≤ 1 → v1 = nI w → CH.1 ≠ 0 → 0 < wl W → ∀ h', mFr2 (fun a k => aSu a k ∨ aW2 a k) h h' → cSt h' W I → flK h h' W I → suC h' W I → w2C h' W CH → mI h' 41 4 = nI (stN W) → (stN W = 0 → Q (some (.inl (-2))) h') ∧ (0 < stN W → Q (some (.inl (ahA W CH w))) h')) : mC G kX11_ahead (d + 7) b [.inr (some 8), .inl v1] h Q := by
  have hn8 := st.1.1.2.1
  have hl12 := st.1.2.2.2.2.2.2.1.2.1
  have hs8 := stN_le hn8
  refine qX11_ahead _ hS ⟨fun z1 => ?_, K1⟩
  rw [hC.1, st.1.2.2.2.2.2.2.1.1]
  refine ⟨fun z => K2 z1 (Or.inl z), fun z => ⟨fun z2 => ?_, fun z2 => K2 z1 (Or.inr ?_)⟩⟩
  · have h0 : 0 < wl W := Nat.pos_of_ne_zero (fun e => z2 (by rw [e]; rfl))
    obtain ⟨w, hw, ew⟩ := wi_ex (m := 1) (by omega) z1
    have K := K3 w hw ew z h0
    rw [ew]
    refine c0_survey hS st sc (fun h1 f1 s1 k1 c1 r1 => ⟨rfl, f1.1.sk hS, ?_⟩)
    have hS1 := f1.1.sk hS
    have nS : ∀ x k, (x = 8 ∨ x = 41) → ¬ aSu x k := fun x k q z => by unfold aSu aF1 aEr aEar at z; omega
    have hC1 : chX h1 CH := hC.fr f1 (nS 41 3 (by omega)) (fun a k q1 q2 z => by unfold aSu aF1 aEr aEar at z; omega)
    have l41 : ∀ k, mI h1 41 k = mI h 41 k := fun k => f1.2 _ _ (nS _ _ (by omega))
    have wc1 : w2C h1 W CH := by
      refine ⟨fun q => ?_, by rw [l41, f1.2 8 7 (nS _ _ (by omega))]; exact wc.2⟩
      rw [l41, f1.2 8 7 (nS _ _ (by omega))] at q
      obtain ⟨q1, q2⟩ := wc.1 q
      exact ⟨by rw [l41]; exact q1, fun j hj => by rw [l41, l41]; exact q2 j hj⟩
    refine c8_weighTwo (d := d + 1) hS1 s1 h0 hC1 r1.2.1 wc1 (fun h2 f2 s2 k2 c2 r2 => ⟨rfl, f2.1.sk hS1, ?_⟩)
    have suc2 : suC h2 W I := c1.fr f2 k2 (fun z => by unfold aW2 at z; omega) (fun z => by unfold aW2 at z; omega) (fun z => by unfold aW2 at z; omega) (fun k => ⟨fun z => by unfold aW2 at z; omega, fun z => by unfold aW2 at z; omega⟩)
    have K4 := K h2 ((f1.wk (fun a k z => Or.inl z)).tr (f2.wk (fun a k z => Or.inr z))) s2 (k1.tr k2) suc2 c2 r2.1
    obtain ⟨i, hi, hti⟩ := told_ex hC.2.1 z
    obtain ⟨j, hj, htj, ej⟩ := bsF_ex (M := fun j => syN W CH (CH.2 j)) (T := bt CH.1) 6 i hi hti
    have ej' : ahO W CH 6 = some j := ej
    obtain ⟨p1, p2⟩ := r2.2 j ej'
    rw [r2.1, p1, p2]
    have sz : nI (stN W) = 0 ↔ stN W = 0 := nI_eq (b := 0) (by omega) (by omega)
    have w0 : nI w = 0 ↔ w = 0 := nI_eq (b := 0) (by omega) (by omega)
    rw [sz, w0]
    refine ⟨fun q => ?_, K4.1⟩
    have K5 := K4.2 (by omega)
    unfold ahA at K5
    rw [ej', oI_s, oI_s] at K5
    refine ⟨fun t => ?_, fun t => ?_⟩
    · rw [if_neg t] at K5; exact K5
    · rw [if_pos t] at K5; exact K5
  · exact (nI_eq (b := 0) (by omega) (by omega)).mp z2
end
