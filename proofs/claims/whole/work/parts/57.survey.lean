/-! survey, sure (class) -/
noncomputable def slB (W : aW) (b : Bool) (x y : Nat) : Bool := @decide (slP W b x y) (Classical.propDecidable _)
theorem slB_t {W : aW} {b : Bool} {x y : Nat} : slB W b x y = true ↔ slP W b x y := @decide_eq_true_iff _ (Classical.propDecidable _)
theorem slB_f {W : aW} {b : Bool} {x y : Nat} (h : ¬ slP W b x y) : slB W b x y = false := by
  cases hb : slB W b x y with
  | false => rfl
  | true => exact absurd (slB_t.mp hb) h
/-- what a survey finds -/
def suR (h : mH) (W : aW) (I : Nat → Nat) : Prop := isFi (mI h 33 2) W ∧ (∀ c, c < wn W → fol h W I c) ∧ (noFit W → ∀ y, y < 32 → mI h 35 y = 0 ∧ mI h 36 y = 0) ∧ (¬ noFit W → ∀ x y, x < 32 → y < 32 → bt (mI h 35 y) x = slB W true x y ∧ bt (mI h 36 y) x = slB W false x y)
def suC (h : mH) (W : aW) (I : Nat → Nat) : Prop := (mI h 33 6 = mI h 8 7 → suR h W I) ∧ stB (mI h 33 6) (mI h 8 7)
theorem suR.fr {A : Nat → Nat → Prop} {h h' : mH} {W : aW} {I : Nat → Nat} (f : mFr2 A h h') (k : flK h h' W I) (h2 : ¬ A 33 2) (h3 : ∀ k, ¬ A 35 k ∧ ¬ A 36 k) (s : suR h W I) : suR h' W I := by
  obtain ⟨s1, s2, s3, s4⟩ := s
  refine ⟨by rw [f.2 _ _ h2]; exact s1, fun c hc => k c hc (s2 c hc), fun q y hy => ?_, fun q x y hx hy => ?_⟩
  · rw [f.2 _ _ (h3 y).1, f.2 _ _ (h3 y).2]; exact s3 q y hy
  · rw [f.2 _ _ (h3 y).1, f.2 _ _ (h3 y).2]; exact s4 q x y hx hy
theorem suC.fr {A : Nat → Nat → Prop} {h h' : mH} {W : aW} {I : Nat → Nat} (f : mFr2 A h h') (k : flK h h' W I) (h1 : ¬ A 8 7) (h2 : ¬ A 33 2) (h6 : ¬ A 33 6) (h3 : ∀ k, ¬ A 35 k ∧ ¬ A 36 k) (s : suC h W I) : suC h' W I := by
  refine ⟨fun z => ?_, by rw [f.2 _ _ h1, f.2 _ _ h6]; exact s.2⟩
  rw [f.2 _ _ h1, f.2 _ _ h6] at z
  exact (s.1 z).fr f k h2 h3
def aSu : Nat → Nat → Prop := fun x k => aF1 x k ∨ (x = 33 ∧ (k = 2 ∨ k = 6)) ∨ x = 35 ∨ x = 36
/-- the first c of the coasts agree -/
def slQ (W : aW) (n : Nat) (b : Bool) (x y : Nat) : Prop := ∀ c, c < n → wFit W c = true → coLand (wC W c) x y = b
section
variable {G : mG} {d : Nat} {b : Nat × Nat} {h : mH} {Q : Option mV → mH → Prop}
set_option maxHeartbeats 1000000 in
theorem c0_survey {W : aW} {I : Nat → Nat} (hS : mSk h) (st : cSt h W I) (sc : suC h W I)
    (K : ∀ h', mFr2 aSu h h' → cSt h' W I → flK h h' W I → suC h' W I → suR h' W I → Q none h') : mC G kX0_survey (d + 6) b [.inr (some 33), .inr (some 28), .inl (mI h 8 7)] h Q := by
  have hn8 := st.1.1.2.1
  refine qX0_survey _ hS ⟨fun z h1 e1 h2 e2 => ?_, fun z => K h mFr2.rf st flK.rf sc (sc.1 z)⟩
  have f2 : mFr2 (fun x k => x = 33 ∧ (k = 2 ∨ k = 6)) h h2 := by rw [e2, e1]; exact (mFr2.SI ⟨rfl, by omega⟩).tr (mFr2.SI ⟨rfl, by omega⟩)
  have hS2 := f2.1.sk hS
  have e33 : mI h2 33 2 = 0 := by rw [e2, mI_SI_s]
  refine j_fill (N := 32) (-1) hS2 (skT_35 hS2) (skL_35 hS2) (by omega) (fun h3 f3 c3 => ⟨rfl, f3.1.sk hS2, ?_⟩)
  have hS3 := f3.1.sk hS2
  refine j_fill (N := 32) (-1) hS3 (skT_36 hS3) (skL_36 hS3) (by omega) (fun h4 f4 c4 => ⟨rfl, f4.1.sk hS3, ?_⟩)
  have hS4 := f4.1.sk hS3
  have f24 : mFr2 (fun x k => (x = 33 ∧ (k = 2 ∨ k = 6)) ∨ x = 35 ∨ x = 36) h h4 := ((f2.wk (fun x k z => Or.inl z)).tr (f3.wk (fun x k z => Or.inr (Or.inl z)))).tr (f4.wk (fun x k z => Or.inr (Or.inr z)))
  have s4 : cSt h4 W I := st.ca (f24.wk (fun x k z => by unfold aCa; omega))
  have k4 : flK h h4 W I := flK.lo st.1 f24 (fun x k q z => by omega)
  refine mloop (W := fun c h5 => mW G kX0_survey (d + 6) b 37 [some (.inr (some 33)), some (.inr (some 28)), none, some (.inl (nI c)), none] [] h5 Q)
    (P := fun c h5 => mI h5 33 6 = mI h 8 7 ∧ mFr2 aSu h h5 ∧ cSt h5 W I ∧ flK h h5 W I ∧ (∀ c', c' < c → fol h5 W I c') ∧ (∀ i, i < 32 → bt (mI h5 33 2) i = (decide (i < c) && wFit W i)) ∧ ∀ x y, x < 32 → y < 32 → (bt (mI h5 35 y) x = true ↔ slQ W c true x y) ∧ (bt (mI h5 36 y) x = true ↔ slQ W c false x y)) (wn W) ?_ ?_ 0 h4 (by omega) ⟨by rw [f4.2 _ _ (fun z => by omega), f3.2 _ _ (fun z => by omega), e2, mI_SI_k (by omega), e1, mI_SI_s], f24.wk (fun x k z => Or.inr z), s4, k4, fun c' z => by omega, fun i hi => ?_, fun x y hx hy => ?_⟩
  · rintro c h5 hc ⟨t5, f5, s5, k5, o5, b5, r5⟩ ih
    have hS5 := f5.1.sk hS
    have ha := (s5.1.2.1 c hc).1
    have ta := (s5.1.1.2.2 c hc).2.1
    have eR := (s5.1.1.2.2 c hc).1
    refine qX0_survey_37 _ hS5 ⟨fun z => absurd z (by rw [s5.1.1.1]; exact nI_ge hc (by omega)), fun _ => ⟨vp_in_nI (by omega) (by omega), ?_⟩⟩
    rw [nI_clamp (by omega), eR]
    refine c6_fol hS5 s5 hc (fun h6 f6 s6 o6 k6 => ⟨rfl, f6.1.sk hS5, vp_in_nI (by omega) (by omega), ?_⟩)
    have hS6 := f6.1.sk hS5
    rw [(s6.1.1.2.2 c hc).1]
    have lo6 : ∀ x k, x < 93 → x ≠ 30 → ¬ aEr x k → mI h6 x k = mI h5 x k := fun x k q1 q2 q3 => f6.2 _ _ (aFl_lo ha q1 q2 q3)
    have f56 : mFr2 aSu h h6 := f5.tr (f6.wk (fun x k z => Or.inl (aFl_f1 ha z)))
    have fo6 : ∀ c', c' < c + 1 → fol h6 W I c' := fun c' hc' => by
      by_cases e : c' = c
      · rw [e]; exact o6
      · exact k6 c' (by omega) (o5 c' (by omega))
    have g33 : mI h6 33 2 = mI h5 33 2 := lo6 _ _ (by omega) (by omega) (by unfold aEr aEar; omega)
    have g35 : ∀ y, mI h6 35 y = mI h5 35 y := fun y => lo6 _ _ (by omega) (by omega) (by unfold aEr aEar; omega)
    have g36 : ∀ y, mI h6 36 y = mI h5 36 y := fun y => lo6 _ _ (by omega) (by omega) (by unfold aEr aEar; omega)
    have fa := fit_all s6.1 c
    refine c6_badLine (d := d + 3) hS6 s6.1 hc o6 (fun z => ⟨_, rfl, hS6, fun q => absurd rfl q, fun _ h7 e7 => ?_⟩) (fun i hb => ⟨_, rfl, hS6, fun _ => ?_, fun q => absurd q (nI_nm1 (by have := hb.1; have := s6.1.2.2.2.2.2.2.1.2.1; omega))⟩)
    · have hf := fa.mp z
      refine mloop (W := fun y h8 => mW G kX0_survey (d + 6) b 84 [some (.inr (some 33)), some (.inr (some 28)), none, some (.inl (nI c)), some (.inl (nI y))] [] h8 Q)
        (P := fun y h8 => mFr2 (fun x _ => x = 35 ∨ x = 36) h7 h8 ∧ ∀ y', y' < 32 → mI h8 35 y' = (if y' < y then mI h6 35 y' &&& mI h6 (I c + 1) y' else mI h6 35 y') ∧ mI h8 36 y' = (if y' < y then mI h6 36 y' &&& m_not (mI h6 (I c + 1) y') else mI h6 36 y')) 32 ?_ ?_ 0 h7 (by omega) ⟨mFr2.rf, fun y' hy' => ?_⟩
      · rintro y h8 hy ⟨f8, c8⟩ ih8
        have f7 : mFr2 (fun x k => x = 33 ∧ k = 2) h6 h7 := by rw [e7]; exact mFr2.SI ⟨rfl, rfl⟩
        have hS8 := f8.1.sk (f7.1.sk hS6)
        have e8 : mR h8 34 c = some (I c) := by rw [f8.1.2.2.2, f7.1.2.2.2]; exact (s6.1.1.2.2 c hc).1
        have t8 : mT h8 (I c) = 2 := by rw [f8.1.2.1, f7.1.2.1]; exact (s6.1.1.2.2 c hc).2.1
        have vy := vp_in_nI (n := y) (N := 32) hy (by omega)
        have vc := vp_in_nI (n := c) (N := 8) (by omega) (by omega)
        have gl : ∀ k, mI h8 (I c + 1) k = mI h6 (I c + 1) k := fun k => by rw [f8.2 _ _ (fun z => by omega), f7.2 _ _ (fun z => by omega)]
        refine qX0_survey_84 _ _ hS8 ⟨fun z => absurd z (nI_ge (b := 32) hy (by omega)), fun _ => ?_⟩
        rw [nI_clamp (show c < 2 ^ 31 by omega), nI_clamp (show y < 2 ^ 31 by omega)]
        refine ⟨vy, vc, I c, e8, t8, vy, vy, fun h9 e9 => ⟨vy, vc, I c, by rw [e9]; exact e8, by rw [e9]; exact t8, vy, vy, fun h10 e10 => ?_⟩⟩
        have gl9 : mI h9 (I c + 1) y = mI h6 (I c + 1) y := by rw [e9, mI_SI_a (by omega)]; exact gl y
        have g9 : mI h9 36 y = mI h8 36 y := by rw [e9, mI_SI_a (by omega)]
        rw [gl9, g9] at e10
        rw [gl] at e9
        rw [nI_1, e10, e9]
        refine ih8 _ ⟨(f8.tr (mFr2.SI (Or.inl rfl))).tr (mFr2.SI (Or.inr rfl)), fun y' hy' => ?_⟩
        have q := c8 y' hy'
        by_cases e : y' = y
        · subst e
          rw [if_neg (by omega), if_neg (by omega)] at q
          rw [mI_SI_s, mI_SI_a (by omega), mI_SI_s, if_pos (by omega), if_pos (by omega), q.1, q.2]
          exact ⟨rfl, rfl⟩
        · rw [mI_SI_k e, mI_SI_k e, mI_SI_k e, mI_SI_k e, q.1, q.2]
          by_cases e2 : y' < y
          · rw [if_pos e2, if_pos e2, if_pos (by omega), if_pos (by omega)]; exact ⟨rfl, rfl⟩
          · rw [if_neg e2, if_neg e2, if_neg (by omega), if_neg (by omega)]; exact ⟨rfl, rfl⟩
      · rintro h8 ⟨f8, c8⟩
        have f7 : mFr2 (fun x k => x = 33 ∧ k = 2) h6 h7 := by rw [e7]; exact mFr2.SI ⟨rfl, rfl⟩
        have f78 : mFr2 (fun x k => (x = 33 ∧ k = 2) ∨ x = 35 ∨ x = 36) h6 h8 := (f7.wk (fun x k z => Or.inl z)).tr (f8.wk (fun x k z => Or.inr z))
        refine qX0_survey_84 _ _ (f78.1.sk hS6) ⟨fun _ => ?_, fun z => absurd (by decide) z⟩
        rw [nI_1]
        have k78 : flK h6 h8 W I := flK.lo s6.1 f78 (fun x k q z => by omega)
        refine ih h8 ⟨by rw [f78.2 _ _ (fun z => by omega), lo6 _ _ (by omega) (by omega) (by unfold aEr aEar; omega)]; exact t5, f56.tr (f78.wk (fun x k z => Or.inr (by omega))), s6.ca (f78.wk (fun x k z => by unfold aCa; omega)), (k5.tr k6).tr k78, fun c' hc' => k78 c' (by omega) (fo6 c' hc'), fun i hi => ?_, fun x y hx hy => ?_⟩
        · rw [f8.2 _ _ (fun z => by omega), e7, mI_SI_s, bt_setb _ (by omega) hi, g33, b5 i hi]
          by_cases e : i = c
          · subst e; rw [hf]; simp
          · rw [decide_eq_false e, Bool.or_false, show decide (i < c + 1) = decide (i < c) by rw [decide_eq_decide]; omega]
        · have q := c8 y hy
          rw [if_pos hy, if_pos hy, g35, g36] at q
          have lnd := ((s6.1.1.2.2 c hc).2.2.2.2.1 x y hx hy).1
          have r := r5 x y hx hy
          rw [q.1, q.2, bt_and, bt_and, bt_not _ hx, lnd, Bool.and_eq_true, Bool.and_eq_true, r.1, r.2]
          constructor
          · constructor
            · rintro ⟨t1, t2⟩ c' hc' hf'
              by_cases e : c' = c
              · rw [e]; exact t2
              · exact t1 c' (by omega) hf'
            · intro t
              exact ⟨fun c' hc' hf' => t c' (by omega) hf', t c (by omega) hf⟩
          · constructor
            · rintro ⟨t1, t2⟩ c' hc' hf'
              by_cases e : c' = c
              · rw [e]; simpa using t2
              · exact t1 c' (by omega) hf'
            · intro t
              exact ⟨fun c' hc' hf' => t c' (by omega) hf', by rw [t c (by omega) hf]; rfl⟩
      · rw [e7, mI_SI_a (by omega), mI_SI_a (by omega), if_neg (by omega), if_neg (by omega)]; exact ⟨rfl, rfl⟩
    · have hf : wFit W c = false := by
        cases hq : wFit W c with
        | false => rfl
        | true => have := fa.mpr hq i hb.1; have := hb.2.1; omega
      rw [nI_1]
      refine ih h6 ⟨by rw [lo6 _ _ (by omega) (by omega) (by unfold aEr aEar; omega)]; exact t5, f56, s6, k5.tr k6, fo6, fun i hi => ?_, fun x y hx hy => ?_⟩
      · rw [g33, b5 i hi]
        by_cases e : i = c
        · subst e; rw [hf]; simp
        · rw [show decide (i < c + 1) = decide (i < c) by rw [decide_eq_decide]; omega]
      · have r := r5 x y hx hy
        have sq : ∀ bb, slQ W c bb x y ↔ slQ W (c + 1) bb x y := fun bb => by
          constructor
          · intro t c' hc' hf'
            by_cases e : c' = c
            · rw [e, hf] at hf'; cases hf'
            · exact t c' (by omega) hf'
          · intro t c' hc' hf'
            exact t c' (by omega) hf'
        rw [g35, g36, r.1, r.2, sq, sq]
        exact ⟨Iff.rfl, Iff.rfl⟩
  · rintro h5 ⟨t5, f5, s5, k5, o5, b5, r5⟩
    have hS5 := f5.1.sk hS
    have hF : isFi (mI h5 33 2) W := b5
    have toB : ∀ (v : Int32) (x x' y' : Nat) (bb : Bool), (bt v x = true ↔ slP W bb x' y') → bt v x = slB W bb x' y' := fun v x x' y' bb hp => by
      by_cases q : slP W bb x' y'
      · rw [hp.mpr q, slB_t.mpr q]
      · rw [slB_f q]
        cases hb : bt v x with
        | false => rfl
        | true => exact absurd (hp.mp hb) q
    refine qX0_survey_37 _ hS5 ⟨fun _ => ⟨fun z => ?_, fun z => ?_⟩, fun z => absurd (by rw [s5.1.1.1]; exact nI_le (by omega) (by omega)) z⟩
    · have nf : ¬ noFit W := fun q => z ((isFi_0 hn8 hF).mpr q)
      have sr : suR h5 W I := ⟨hF, o5, fun q => absurd q nf, fun _ x y hx hy => ⟨toB _ _ _ _ _ (r5 x y hx hy).1, toB _ _ _ _ _ (r5 x y hx hy).2⟩⟩
      exact K h5 f5 s5 k5 ⟨fun _ => sr, by rw [t5, f5.2 8 7 (by unfold aSu aF1 aEr aEar; omega)]; exact sc.2.rf⟩ sr
    · have nf : noFit W := (isFi_0 hn8 hF).mp z
      refine j_fill (N := 32) 0 hS5 (skT_35 hS5) (skL_35 hS5) (by omega) (fun h6 f6 c6 => ⟨rfl, f6.1.sk hS5, ?_⟩)
      have hS6 := f6.1.sk hS5
      refine j_fill (N := 32) 0 hS6 (skT_36 hS6) (skL_36 hS6) (by omega) (fun h7 f7 c7 => ⟨rfl, f7.1.sk hS6, ?_⟩)
      have f67 : mFr2 (fun x _ => x = 35 ∨ x = 36) h5 h7 := (f6.wk (fun x k z => Or.inl z)).tr (f7.wk (fun x k z => Or.inr z))
      have k67 : flK h5 h7 W I := flK.lo s5.1 f67 (fun x k q z => by omega)
      have sr : suR h7 W I := ⟨by rw [f67.2 _ _ (fun z => by omega)]; exact hF, fun c hc => k67 c hc (o5 c hc), fun _ y hy => ⟨by rw [f7.2 _ _ (fun z => by omega)]; exact c6 y hy, c7 y hy⟩, fun q => absurd nf q⟩
      exact K h7 (f5.tr (f67.wk (fun x k z => Or.inr (Or.inr z)))) (s5.ca (f67.wk (fun x k z => by unfold aCa; omega))) (k5.tr k67) ⟨fun _ => sr, by rw [f67.2 33 6 (fun z => by omega), f67.2 8 7 (fun z => by omega), t5, f5.2 8 7 (by unfold aSu aF1 aEr aEar; omega)]; exact sc.2.rf⟩ sr
  · rw [f4.2 _ _ (fun z => by omega), f3.2 _ _ (fun z => by omega), e33, bt_0]; simp
  · rw [f4.2 35 _ (fun z => by omega), c3 y hy, c4 y hy, bt_m1 x hx]
    exact ⟨⟨fun _ c hc => by omega, fun _ => rfl⟩, ⟨fun _ c hc => by omega, fun _ => rfl⟩⟩
theorem c0_lowestFitting {W : aW} {I : Nat → Nat} {x y : Nat} (v3 : Int32) {l : Bool} (e3 : v3 = b2i l) (hS : mSk h) (hC : cCh h (wn W) I (wC W)) (hF : isFi (mI h 33 2) W) (hx : x < 32) (hy : y < 32) (K : Q (some (.inl (loV W x y l))) h) : mC G kX0_lowestFitting (d + 1) b [.inr (some 33), .inl (nI x), .inl (nI y), .inl v3] h Q := by
  have hn8 := hC.2.1
  subst e3
  refine qX0_lowestFitting _ _ _ hS ?_
  have lp : ∀ (r c : Nat), c + r = wn W → Q (some (.inl (loF W x y l r c))) h → mW G kX0_lowestFitting (d + 1) b 3 [some (.inr (some 33)), some (.inl (nI x)), some (.inl (nI y)), some (.inl (b2i l)), some (.inl (nI c))] [] h Q := by
    intro r
    induction r with
    | zero =>
      intro c hc K
      exact qX0_lowestFitting_3 _ _ _ _ hS ⟨fun _ => K, fun z => absurd (by rw [hC.1]; exact nI_le (by omega) (by omega)) z⟩
    | succ r ih =>
      intro c hc K
      rw [loF_s] at K
      have hf := hF c (by omega)
      rw [decide_eq_true (show c < wn W by omega), Bool.true_and] at hf
      obtain ⟨eR, ta, -, -, hL, -⟩ := hC.2.2 c (by omega)
      refine qX0_lowestFitting_3 _ _ _ _ hS ⟨fun z => absurd z (by rw [hC.1]; exact nI_ge (by omega) (by omega)), fun _ => ?_⟩
      rw [ask_b2i _ (show c < 32 by omega), hf, b2i_1, nI_1, nI_clamp (show c < 2 ^ 31 by omega)]
      refine ⟨fun z => ih (c + 1) (by omega) ?_, fun z => ⟨vp_in_nI (by omega) (by omega), I c, eR, ta, c1_isLand hS ta hL hx hy ⟨_, rfl, hS, ta, ?_⟩⟩⟩
      · rw [if_neg (fun t => z t.1)] at K; exact K
      · have hb : b2i (coLand (wC W c) x y) = b2i l ↔ coLand (wC W c) x y = l := by
          cases coLand (wC W c) x y <;> cases l <;> decide
        rw [hb]
        refine ⟨fun z2 => ih (c + 1) (by omega) ?_, fun z2 => ?_⟩
        · rw [if_neg (fun t => z2 t.2)] at K; exact K
        · rw [if_pos ⟨z, z2⟩] at K; exact K
  exact lp (wn W) 0 (by omega) K
theorem c11_sure (v1 v2 v3 : Int32) {W : aW} {I : Nat → Nat} (hS : mSk h) (st : cSt h W I) (sc : suC h W I) (K1 : ¬ (¬ f_X11_inGrid v1 v2 = 0 ∧ ¬ f_X11_within v3 0 2 = 0) → Q (some (.inl (-3))) h)
    (K2 : ∀ x y w, x < 32 → y < 32 → w ≤ 2 → v1 = nI x → v2 = nI y → v3 = nI w → ∀ h', mFr2 aSu h h' → cSt h' W I → flK h h' W I → suC h' W I → (noFit W → Q (some (.inl (-2))) h') ∧ (¬ noFit W → Q (some (.inl (surA W x y w))) h')) : mC G kX11_sure (d + 7) b [.inr (some 8), .inl v1, .inl v2, .inl v3] h Q := by
  have hn8 := st.1.1.2.1
  refine qX11_sure _ _ _ hS ⟨fun z => K1 (fun u => u.1 z), fun g => ⟨fun i => ?_, fun z => K1 (fun u => u.2 z)⟩⟩
  obtain ⟨x, y, hx, hy, ex, ey⟩ := grid_ex g
  obtain ⟨w, hw, ew⟩ := wi_ex (m := 2) (by omega) i
  have K := K2 x y w hx hy hw ex ey ew
  rw [ex, ey, ew]
  refine c0_survey hS st sc (fun h1 f1 s1 k1 c1 r1 => ⟨rfl, f1.1.sk hS, fun z => ?_, fun z => (K h1 f1 s1 k1 c1).1 ((isFi_0 hn8 r1.1).mp z)⟩)
  have hS1 := f1.1.sk hS
  have nf : ¬ noFit W := fun q => z ((isFi_0 hn8 r1.1).mpr q)
  have K4 := (K h1 f1 s1 k1 c1).2 nf
  have rb := r1.2.2.2 nf x y hx hy
  unfold surA at K4
  have w0 : nI w = 0 ↔ w = 0 := nI_eq (b := 0) (by omega) (by omega)
  have w1 : nI w = 1 ↔ w = 1 := nI_eq (b := 1) (by omega) (by omega)
  rw [w0, nI_clamp (show y < 2 ^ 31 by omega), ask_b2i _ hx, b2i_1, rb.1]
  refine ⟨fun q => ⟨vp_in_nI hy (by omega), fun q1 => qX0_isSureWater _ _ hS1 ⟨vp_in_nI hy (by omega), fun w2 e2 => ⟨_, rfl, hS1, fun w5 e5 => ?_⟩⟩, fun q1 => ?_⟩, fun q w9 e9 => ?_⟩
  · rw [if_pos q] at K4
    have n1 : ¬ loV W x y false = -1 := fun t => q1 (slB_t.mpr ((loV_m1 hn8).mp t))
    rw [if_pos n1] at K4
    rw [nI_clamp (show y < 2 ^ 31 by omega), ask_b2i _ hx, rb.2] at e2
    by_cases q2 : slP W false x y
    · have n2 : loV W x y true = -1 := (loV_m1 hn8).mpr q2
      rw [if_neg (fun t => t n2)] at K4
      rw [slB_t.mpr q2, if_neg (by decide)] at e2
      rw [e5, e2, if_neg (by decide)]; exact K4
    · have n2 : ¬ loV W x y true = -1 := fun t => q2 ((loV_m1 hn8).mp t)
      rw [if_pos n2] at K4
      rw [slB_f q2, if_pos (by decide)] at e2
      rw [e5, e2, if_pos rfl]; exact K4
  · rw [if_pos q] at K4
    have n1 : loV W x y false = -1 := (loV_m1 hn8).mpr (slB_t.mp q1)
    rw [if_neg (fun t => t n1)] at K4
    exact K4
  · rw [if_neg q] at K4
    by_cases q1 : w = 1
    · rw [if_pos q1] at K4
      rw [if_neg (fun t => t (w1.mpr q1))] at e9
      exact c0_lowestFitting (d := d + 5) w9 (l := true) e9 hS1 s1.1.1 r1.1 hx hy ⟨_, rfl, hS1, K4⟩
    · rw [if_neg q1] at K4
      rw [if_pos (fun t => q1 (w1.mp t))] at e9
      exact c0_lowestFitting (d := d + 5) w9 (l := false) e9 hS1 s1.1.1 r1.1 hx hy ⟨_, rfl, hS1, K4⟩
end
