/-! rows of cells by number of wrong notes -/
/-- the rows from fr on of the array A say where V is at most w -/
def rwB (h : mH) (A fr s : Nat) (V : Nat → Nat → Nat) : Prop := ∀ w x y, w ≤ s → x < 32 → y < 32 → bt (mI h A (fr + 32 * w + y)) x = decide (V x y ≤ w)
def aSi (A fr v a c : Nat) : Nat → Nat → Prop := fun x k => (x = A ∧ fr ≤ k ∧ k < fr + 128) ∨ ((x = v + 1 ∨ x = v + 2) ∧ c * 32 ≤ k ∧ k < c * 32 + 32) ∨ aMid a x k
theorem cCo.fr {A : Nat → Nat → Prop} {h h' : mH} {a : Nat} {C : aCo} (f : mFr2 A h h') (n0 : ¬ A a 1) (nA : ∀ j k, j = 1 ∨ j = 2 ∨ j = 6 ∨ j = 7 ∨ j = 8 → ¬ A (a + j) k) (hC : cCo h a C) (s : cSw h' a C) : cCo h' a C := by
  obtain ⟨ta, hX, okr, hL, -⟩ := hC
  exact ⟨by rw [f.1.2.1]; exact ta, f.cox n0 (fun k => nA 6 k (by omega)) (fun k => nA 7 k (by omega)) (fun k => nA 8 k (by omega)) hX, okr, f.cla (fun k => nA 1 k (by omega)) (fun k => nA 2 k (by omega)) hL, s⟩
section
variable {G : mG} {d : Nat} {b : Nat × Nat} {h : mH} {Q : Option mV → mH → Prop}
set_option maxHeartbeats 4000000 in
theorem c6_sift {A N fr v lid a c s k m : Nat} {C : aCo} {U : aSo} {L : aLw} {l : aLi} {t : aNt} {V : Nat → Nat → Nat} (hS : mSk h) (tA : mT h A = 100) (lA : mL h A = N) (hN : fr + 128 ≤ N) (hN2 : N < 100000) (hA : A = a + 5 ∨ A = 31) (hn : ntX h v t) (ek : mR h (lid + 1) k = some v) (hk6 : k < 6) (tl : mT h lid = 6) (e3 : mI h lid 3 = nI (jH l)) (e4 : mI h lid 4 = nI (jW l)) (hv93 : 93 ≤ v) (ha93 : 93 ≤ a) (hl93 : 93 ≤ lid) (hC : cCo h a C) (ec : mI h a 0 = nI c) (hc : c < 8) (es : mI h 28 2 = nI s) (hs : s ≤ 3) (okt : okNt m t) (hU : soX h m U) (lw : lwX h L) (ok : okLw L)
    (hV : rwB h A fr s V) (hwat : ∀ x y, x < 32 → y < 32 → V x y ≤ s → coLand C x y = false) (hkc : ∀ y, y < 32 → kcR h v (c * 32 + y) (fun x => hdB L U C l t x y))
    (K : ∀ h', mFr2 (aSi A fr v a c) h h' → rwB h' A fr s (fun x y => V x y + (if hdB L U C l t x y then 0 else 1)) → (∀ y, y < 32 → kcR h' v (c * 32 + y) (fun x => hdB L U C l t x y)) → cSw h' a C → Q none h') : mC G kX6_sift (d + 4) b [.inr (some 28), .inr (some a), .inr (some lid), .inl (nI k), .inr (some A), .inl (nI fr)] h Q := by
  obtain ⟨tv, nt2⟩ := hn
  have ta := hC.1
  have ap := ap82 hS tv ta
  have apl := ap62 hS tl ta
  have apv := ap68 hS tl tv
  have hAv : ∀ i, i ≤ 2 → v + i ≠ A := fun i hi z => by
    rcases hA with e | e
    · exact ap i 5 hi (by omega) (by omega)
    · omega
  have hAl : lid ≠ A := fun z => by
    rcases hA with e | e
    · exact apl 0 5 (by omega) (by omega) (by omega)
    · omega
  have hAa : ∀ j, j ≤ 4 ∨ 6 ≤ j → a + j ≠ A := fun j hj z => by
    rcases hA with e | e <;> omega
  have hAm : ∀ k, ¬ aMid a A k := fun k z => by
    unfold aMid aEr aEar at z
    rcases hA with e | e <;> omega
  refine qX6_sift a lid _ A _ ta tl tA hS ?_
  rw [es, L32, pk_mul, nI_add]
  refine mloop (W := fun y h1 => mW G kX6_sift (d + 4) b 15 [some (.inr (some 28)), some (.inr (some a)), some (.inr (some lid)), some (.inl (nI k)), some (.inr (some A)), some (.inl (nI fr)), some (.inl (nI (fr + s * 32))), some (.inl (nI y)), none, none, none] [] h1 Q)
    (P := fun y h1 => mFr2 (aSi A fr v a c) h h1 ∧ (∀ w x y', w ≤ s → x < 32 → y' < 32 → bt (mI h1 A (fr + 32 * w + y')) x = decide ((if y' < y then V x y' + (if hdB L U C l t x y' then 0 else 1) else V x y') ≤ w)) ∧ (∀ y, y < 32 → kcR h1 v (c * 32 + y) (fun x => hdB L U C l t x y)) ∧ cSw h1 a C) 32 ?_ ?_ 0 h (by omega) ⟨mFr2.rf, fun w x y' h1 h2 h3 => by rw [if_neg (by omega)]; exact hV w x y' h1 h2 h3, hkc, hC.2.2.2.2⟩
  · rintro y h1 hy ⟨f1, c1, k1, s1⟩ ih
    have hS1 := f1.1.sk hS
    have ta1 : mT h1 a = 2 := by rw [f1.1.2.1]; exact ta
    have tl1 : mT h1 lid = 6 := by rw [f1.1.2.1]; exact tl
    have tA1 : mT h1 A = 100 := by rw [f1.1.2.1]; exact tA
    have lA1 : mL h1 A = N := by rw [f1.1.2.2.1]; exact lA
    have eN : nI (fr + s * 32) + nI y = nI (fr + 32 * s + y) := by rw [nI_add, Nat.mul_comm s 32]
    refine qX6_sift_15 a lid _ A _ _ _ ta1 tl1 tA1 hS1 ⟨fun z => absurd z (nI_ge (b := 32) hy (by omega)), fun _ => ?_⟩
    rw [eN, nI_clamp (by omega), nI_clamp (by omega), lA1, nI_1]
    have hb : ∀ x, x < 32 → bt (mI h1 A (fr + 32 * s + y)) x = decide (V x y ≤ s) := fun x hx => by
      rw [c1 s x y (by omega) hx hy, if_neg (by omega)]
    refine ⟨vp_in_nI (by omega) (by omega), fun z => ?_, fun z => ⟨vp_in_nI hk6 (by omega), ?_⟩⟩
    · refine ih h1 ⟨f1, fun w x y' q1 q2 q3 => ?_, k1, s1⟩
      rw [c1 w x y' q1 q2 q3]
      by_cases e : y' = y
      · rw [e, if_neg (by omega), if_pos (by omega)]
        have h0 := hb x q2
        rw [z, bt_0] at h0
        have h0' : ¬ V x y ≤ s := by simpa using h0.symm
        rw [decide_eq_false (by omega), decide_eq_false (by split <;> omega)]
      · by_cases e2 : y' < y
        · rw [if_pos e2, if_pos (show y' < y + 1 by omega)]
        · rw [if_neg e2, if_neg (show ¬ y' < y + 1 by omega)]
    · have nSi : ∀ x k, (x = v ∨ x = lid ∨ x = a ∨ x = 28 ∨ x = 29 ∨ (12 ≤ x ∧ x ≤ 15) ∨ x = 11) → ¬ aSi A fr v a c x k := by
        intro x k q z
        have q1 := ap 0 3 (by omega) (by omega); have q2 := ap 0 4 (by omega) (by omega)
        have q3 := apl 0 3 (by omega) (by omega); have q4 := apl 0 4 (by omega) (by omega)
        have q5 := apv 0 1 (by omega) (by omega); have q6 := apv 0 2 (by omega) (by omega)
        have q7 := ap 1 0 (by omega) (by omega); have q8 := ap 2 0 (by omega) (by omega)
        have q9 := hAv 0 (by omega); have q10 := hAa 0 (by omega)
        unfold aSi aMid aEr aEar at z
        rcases hA with e | e <;> omega
      have nn : ntX h1 v t := by
        obtain ⟨z0, z1, z2, z3⟩ := nt2
        exact ⟨by rw [f1.1.2.1]; exact tv, by rw [f1.2 _ _ (nSi _ _ (by omega))]; exact z0, by rw [f1.2 _ _ (nSi _ _ (by omega))]; exact z1, by rw [f1.2 _ _ (nSi _ _ (by omega))]; exact z2, by rw [f1.2 _ _ (nSi _ _ (by omega))]; exact z3⟩
      have hC1 : cCo h1 a C := cCo.fr f1 (nSi _ _ (by omega)) (fun j k hj z => by
        have q1 := ap 1 j (by omega) (by omega); have q2 := ap 2 j (by omega) (by omega)
        unfold aSi aMid aEr aEar at z
        rcases hA with e | e <;> omega) hC s1
      have hU1 : soX h1 m U := soX.fr f1 (fun x k z1 z2 => nSi x k (by omega)) (nSi _ _ (by omega)) hU
      have lw1 : lwX h1 L := lwX.fr f1 (fun x k z1 z => by unfold aSi aMid aEr aEar at z; rcases hA with e | e <;> omega) lw
      rw [f1.1.2.2.2, ek]
      refine c2_holdsIn hS1 nn tl1 (by rw [f1.2 _ _ (nSi _ _ (by omega))]; exact e3) (by rw [f1.2 _ _ (nSi _ _ (by omega))]; exact e4) hv93 ha93 hC1 (by rw [f1.2 _ _ (nSi _ _ (by omega))]; exact ec) hc hy okt hU1 lw1 ok (fun x hx hbx => hwat x y hx hy (by rw [hb x hx] at hbx; simpa using hbx)) (k1 y hy) (fun h2 wv f2 hw k2 s2 => ?_)
      have f2' : mFr2 (aSi A fr v a c) h1 h2 := f2.wk (fun x k z => by rcases z with ⟨z1, z2⟩ | z; exact Or.inr (Or.inl ⟨z1, by omega, by omega⟩); exact Or.inr (Or.inr z))
      have f12 := f1.tr f2'
      have hS2 := f12.1.sk hS
      have cA2 : ∀ k, mI h2 A k = mI h1 A k := fun k => f2.2 _ _ (fun z => by
        have q1 := hAv 1 (by omega); have q2 := hAv 2 (by omega)
        rcases z with ⟨z1, z2⟩ | z
        · omega
        · exact hAm k z)
      have k2' : ∀ y', y' < 32 → kcR h2 v (c * 32 + y') (fun x => hdB L U C l t x y') := fun y' hy' => by
        by_cases e : y' = y
        · rw [e]; exact k2
        · intro x hx
          have g : ∀ i, i = 1 ∨ i = 2 → mI h2 (v + i) (c * 32 + y') = mI h1 (v + i) (c * 32 + y') := fun i hi => f2.2 _ _ (fun z => by
            have q1 := ap i 3 (by omega) (by omega); have q2 := ap i 4 (by omega) (by omega)
            unfold aHo aMid aEr aEar at z; omega)
          rw [g 1 (by omega), g 2 (by omega)]
          exact k1 y' hy' x hx
      refine ⟨_, rfl, hS2, by rw [f12.1.2.1]; exact ta, by rw [f12.1.2.1]; exact tl, by rw [f12.1.2.1]; exact tA, ?_⟩
      have inner : ∀ (w : Nat) (h3 : mH), w ≤ s → mFr2 (aSi A fr v a c) h h3 → (∀ y', y' < 32 → kcR h3 v (c * 32 + y') (fun x => hdB L U C l t x y')) → cSw h3 a C → (∀ w' x y', w' ≤ s → x < 32 → y' < 32 → bt (mI h3 A (fr + 32 * w' + y')) x = decide ((if y' < y ∨ (y' = y ∧ w < w') then V x y' + (if hdB L U C l t x y' then 0 else 1) else V x y') ≤ w')) →
          mW G kX6_sift (d + 4) b 65 [some (.inr (some 28)), some (.inr (some a)), some (.inr (some lid)), some (.inl (nI k)), some (.inr (some A)), some (.inl (nI fr)), some (.inl (nI (fr + s * 32))), some (.inl (nI y)), none, some (.inl wv), some (.inl (nI (fr + 32 * w + y)))] [] h3 Q := by
        intro w
        induction w with
        | zero =>
          intro h3 hw0 f3 k3 s3 c3
          have hS3 := f3.1.sk hS
          refine qX6_sift_65 a lid _ A _ _ _ _ _ (by rw [f3.1.2.1]; exact ta) (by rw [f3.1.2.1]; exact tl) (by rw [f3.1.2.1]; exact tA) hS3 ?_
          rw [show fr + 32 * 0 + y = fr + y by omega, nI_add, nI_clamp (by omega), f3.1.2.2.1, lA, nI_1]
          refine ⟨fun _ => ⟨vp_in_nI (by omega) (by omega), vp_in_nI (by omega) (by omega), fun h4 e4 => ?_⟩, fun z => absurd (nI_le (by omega) (by omega)) z⟩
          subst e4
          refine ih _ ⟨f3.tr (mFr2.SI (Or.inl ⟨rfl, by omega, by omega⟩)), fun w' x y' q1 q2 q3 => ?_, fun y' hy' x hx => ?_, fun q hq n0 => ?_⟩
          · by_cases e : y' = y ∧ w' = 0
            · rw [e.1, e.2, show fr + 32 * 0 + y = fr + y by omega, mI_SI_s, bt_and]
              have := c3 0 x y (by omega) q2 hy
              rw [show fr + 32 * 0 + y = fr + y by omega, if_neg (by omega)] at this
              rw [this, if_pos (by omega)]
              by_cases hle : V x y ≤ 0
              · have hbx : bt (mI h1 A (fr + 32 * s + y)) x = true := by rw [hb x q2]; simp; omega
                rw [hw x q2 hbx]
                cases hdB L U C l t x y <;> simp <;> omega
              · rw [decide_eq_false hle, decide_eq_false (by split <;> omega)]; rfl
            · rw [mI_SI_k (by omega), c3 w' x y' q1 q2 q3]
              by_cases e2 : y' < y + 1
              · rw [if_pos (show y' < y ∨ (y' = y ∧ 0 < w') by omega), if_pos e2]
              · rw [if_neg (show ¬ (y' < y ∨ (y' = y ∧ 0 < w')) by omega), if_neg e2]
          · have g : ∀ i, i = 1 ∨ i = 2 → mI (mSI h3 A (fr + y) (mI h3 A (fr + y) &&& wv)) (v + i) (c * 32 + y') = mI h3 (v + i) (c * 32 + y') := fun i hi => mI_SI_a (hAv i (by omega))
            rw [g 1 (by omega), g 2 (by omega)]
            exact k3 y' hy' x hx
          · rw [mI_SI_a (hAa 4 (by omega))] at n0
            intro x y' hx hy'
            rw [mI_SI_a (hAa 3 (by omega))]
            exact s3 q hq n0 x y' hx hy'
        | succ w ihw =>
          intro h3 hw0 f3 k3 s3 c3
          have hS3 := f3.1.sk hS
          have em : nI (fr + 32 * (w + 1) + y) - 32 = nI (fr + 32 * w + y) := by
            rw [L32, pk_sub (by omega)]; congr 1; omega
          have em2 : nI (fr + 32 * (w + 1) + y) + (-32) = nI (fr + 32 * w + y) := by
            rw [ii_nat, ii_nat, show (-32 : Int32) = iI (-32) from rfl, ii_add]; congr 1; omega
          refine qX6_sift_65 a lid _ A _ _ _ _ _ (by rw [f3.1.2.1]; exact ta) (by rw [f3.1.2.1]; exact tl) (by rw [f3.1.2.1]; exact tA) hS3 ?_
          rw [em, em2, nI_add, nI_clamp (show fr + 32 * (w + 1) + y < 2 ^ 31 by omega), nI_clamp (show fr + 32 * w + y < 2 ^ 31 by omega), f3.1.2.2.1, lA]
          refine ⟨fun z => absurd z (nI_ge (by omega) (by omega)), fun _ => ⟨vp_in_nI (by omega) (by omega), vp_in_nI (by omega) (by omega), vp_in_nI (by omega) (by omega), fun h4 e4 => ?_⟩⟩
          subst e4
          refine ihw _ (by omega) (f3.tr (mFr2.SI (Or.inl ⟨rfl, by omega, by omega⟩))) (fun y' hy' x hx => ?_) (fun q hq n0 => ?_) (fun w' x y' q1 q2 q3 => ?_)
          · have g : ∀ i, i = 1 ∨ i = 2 → ∀ z, mI (mSI h3 A (fr + 32 * (w + 1) + y) z) (v + i) (c * 32 + y') = mI h3 (v + i) (c * 32 + y') := fun i hi z => mI_SI_a (hAv i (by omega))
            rw [g 1 (by omega), g 2 (by omega)]
            exact k3 y' hy' x hx
          · rw [mI_SI_a (hAa 4 (by omega))] at n0
            intro x y' hx hy'
            rw [mI_SI_a (hAa 3 (by omega))]
            exact s3 q hq n0 x y' hx hy'
          · by_cases e : y' = y ∧ w' = w + 1
            · rw [e.1, e.2, mI_SI_s, bt_or, bt_and]
              have a1 := c3 (w + 1) x y (by omega) q2 hy
              rw [if_neg (by omega)] at a1
              have a2 := c3 w x y (by omega) q2 hy
              rw [if_neg (by omega)] at a2
              rw [a1, a2, if_pos (by omega)]
              by_cases hle : V x y ≤ s
              · have hbx : bt (mI h1 A (fr + 32 * s + y)) x = true := by rw [hb x q2]; simpa using hle
                rw [hw x q2 hbx]
                cases hdB L U C l t x y with
                | true =>
                  rw [Bool.and_true, if_pos rfl, Nat.add_zero]
                  by_cases q : V x y ≤ w + 1
                  · simp [q]
                  · have : ¬ V x y ≤ w := by omega
                    simp [q, this]
                | false =>
                  rw [Bool.and_false, Bool.false_or, if_neg (by decide)]
                  by_cases q : V x y ≤ w
                  · simp [q]
                  · simp [q]
              · rw [decide_eq_false (show ¬ V x y ≤ w + 1 by omega), decide_eq_false (show ¬ V x y ≤ w by omega), decide_eq_false (by split <;> omega)]; rfl
            · rw [mI_SI_k (by omega), c3 w' x y' q1 q2 q3]
              by_cases e2 : y' < y ∨ (y' = y ∧ w + 1 < w')
              · rw [if_pos e2, if_pos (show y' < y ∨ (y' = y ∧ w < w') by omega)]
              · rw [if_neg e2, if_neg (show ¬ (y' < y ∨ (y' = y ∧ w < w')) by omega)]
      refine inner s h2 (Nat.le_refl _) f12 k2' s2 (fun w' x y' q1 q2 q3 => ?_)
      rw [cA2, c1 w' x y' q1 q2 q3]
      by_cases e2 : y' < y
      · rw [if_pos e2, if_pos (show y' < y ∨ (y' = y ∧ s < w') by omega)]
      · rw [if_neg e2, if_neg (show ¬ (y' < y ∨ (y' = y ∧ s < w')) by omega)]
  · rintro h1 ⟨f1, c1, k1, s1⟩
    refine qX6_sift_15 a lid _ A _ _ _ (by rw [f1.1.2.1]; exact ta) (by rw [f1.1.2.1]; exact tl) (by rw [f1.1.2.1]; exact tA) (f1.1.sk hS) ⟨fun _ => K h1 f1 (fun w x y q1 q2 q3 => ?_) k1 s1, fun z => absurd (by decide) z⟩
    rw [c1 w x y q1 q2 q3, if_pos q3]
end
