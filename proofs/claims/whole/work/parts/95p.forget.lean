/-! a new law (class): what was heard is forgotten -/
def aHd (h : mH) : Nat → Nat → Prop := fun x _ => ∃ v, mT h v = 8 ∧ 93 ≤ v ∧ mI h v 0 = 0 ∧ (x = v + 1 ∨ x = v + 2)
theorem aHd_l {h : mH} {x k : Nat} (hS : mSk h) (tx : mT h x = 6) : ¬ aHd h x k := by
  rintro ⟨v, z1, z2, -, z3⟩
  have ap2 := ap68 hS tx z1
  have := ap2 0 1 (by omega) (by omega)
  have := ap2 0 2 (by omega) (by omega)
  omega
theorem aHd_n {h : mH} {x k : Nat} (hS : mSk h) (tx : mT h x = 8) : ¬ aHd h x k := by
  rintro ⟨v, z1, z2, -, z3⟩
  by_cases e : x = v
  · omega
  · have ap2 := ap88 hS tx z1 e
    have := ap2 0 1 (by omega) (by omega)
    have := ap2 0 2 (by omega) (by omega)
    omega
theorem aHd_c {h : mH} {a j k : Nat} (hS : mSk h) (ta : mT h a = 2) (hj : j ≤ 8) : ¬ aHd h (a + j) k := by
  rintro ⟨v, z1, z2, -, z3⟩
  have ap2 := ap82 hS z1 ta
  have := ap2 1 j (by omega) (by omega)
  have := ap2 2 j (by omega) (by omega)
  omega
/-- an echo's memory stays -/
theorem aHd_e {h : mH} {v j k : Nat} (hS : mSk h) (tv : mT h v = 8) (e : mI h v 0 ≠ 0) (hj : j = 1 ∨ j = 2) : ¬ aHd h (v + j) k := by
  rintro ⟨w, z1, z2, z4, z3⟩
  by_cases q : v = w
  · subst q; exact e z4
  · have ap2 := ap88 hS tv z1 q
    have := ap2 j 1 (by omega) (by omega)
    have := ap2 j 2 (by omega) (by omega)
    omega
def hdZ (h h' : mH) (J : Nat → aLi) (i k : Nat) : Prop := ∀ i' lid k' v, (i' < i ∨ (i' = i ∧ k' < k)) → mR h 29 i' = some lid → k' < jN (J i') → mR h (lid + 1) k' = some v → mI h v 0 = 0 → ∀ r, r < 256 → mI h' (v + 1) r = 0 ∧ mI h' (v + 2) r = 0
/-- every row stays or is empty -/
def hdY (h h' : mH) : Prop := ∀ v r, mT h v = 8 → 93 ≤ v → r < 256 → (mI h' (v + 1) r = mI h (v + 1) r ∨ mI h' (v + 1) r = 0) ∧ (mI h' (v + 2) r = mI h (v + 2) r ∨ mI h' (v + 2) r = 0)
section
variable {G : mG} {d : Nat} {b : Nat × Nat} {h : mH} {Q : Option mV → mH → Prop}
theorem c6_forgetHeard {m n : Nat} {J : Nat → aLi} (hS : mSk h) (lg : lgX h m n J) (K : ∀ h', mFr2 (aHd h) h h' → hdY h h' → hdZ h h' J n 0 → Q none h') : mC G kX6_forgetHeard (d + 2) b [.inr (some 28)] h Q := by
  obtain ⟨e28, hn, hl⟩ := lg
  have low : ∀ (h1 : mH) x k, mFr2 (aHd h) h h1 → x < 93 → mI h1 x k = mI h x k := fun h1 x k f hx => f.2 _ _ (by rintro ⟨v, -, z2, -, z3⟩; omega)
  have inner : ∀ (i : Nat), i < n → (∀ (h1 : mH), mFr2 (aHd h) h h1 → hdY h h1 → hdZ h h1 J (i + 1) 0 → mW G kX6_forgetHeard (d + 2) b 2 [some (.inr (some 28)), some (.inl (nI (i + 1))), none] [] h1 Q) → ∀ (r k : Nat) (h1 : mH), k + r = jN (J i) → mFr2 (aHd h) h h1 → hdY h h1 → hdZ h h1 J i k → mW G kX6_forgetHeard (d + 2) b 12 [some (.inr (some 28)), some (.inl (nI i)), some (.inl (nI k))] [] h1 Q := by
    intro i hi KK
    obtain ⟨⟨lid, r1, t6, g93, -, -, -, -, -, g5, g6⟩, ok⟩ := hl i hi
    have hN := ok.2.2.2.2.2.1
    intro r
    induction r with
    | zero =>
      intro k h1 hk f1 y1 z1
      have hS1 := f1.1.sk hS
      have kN : k = jN (J i) := by omega
      refine qX6_forgetHeard_12 _ _ hS1 ?_
      rw [nI_clamp (show i < 2 ^ 31 by omega), f1.1.2.2.2, nI_1]
      refine ⟨vp_in_nI (by omega) (by omega), lid, r1, by rw [f1.1.2.1]; exact t6, ?_⟩
      rw [f1.2 _ _ (aHd_l hS t6), g5]
      refine ⟨fun _ => KK h1 f1 y1 (fun i' lid' k' v q1 q2 q3 q4 q5 => ?_), fun u => absurd (nI_le (a := jN (J i)) (by omega) (by omega)) u⟩
      refine z1 i' lid' k' v ?_ q2 q3 q4 q5
      rcases q1 with q1 | q1
      · by_cases w : i' = i
        · subst w; exact Or.inr ⟨rfl, by omega⟩
        · exact Or.inl (by omega)
      · omega
    | succ r ih =>
      intro k h1 hk f1 y1 z1
      have hS1 := f1.1.sk hS
      obtain ⟨v, v1, v2, nt⟩ := g6 k (by omega)
      have v3 := nt.1
      have refs : mR h1 = mR h := f1.1.2.2.2
      have tags : mT h1 = mT h := f1.1.2.1
      have ev : mI h1 v 0 = mI h v 0 := f1.2 _ _ (aHd_n hS v3)
      refine qX6_forgetHeard_12 _ _ hS1 ?_
      rw [nI_clamp (show i < 2 ^ 31 by omega), nI_clamp (show k < 2 ^ 31 by omega), refs, tags, nI_1, nI_1]
      refine ⟨vp_in_nI (by omega) (by omega), lid, r1, t6, ?_⟩
      rw [f1.2 _ _ (aHd_l hS t6), g5]
      refine ⟨fun u => absurd u (nI_ge (b := jN (J i)) (by omega) (by omega)), fun _ => ⟨vp_in_nI (by omega) (by omega), lid, r1, t6, vp_in_nI (by omega) (by omega), v, v1, v3, fun u => ?_, fun u => ⟨vp_in_nI (by omega) (by omega), lid, r1, t6, vp_in_nI (by omega) (by omega), v, v1, v3, ?_⟩⟩⟩
      · rw [ev] at u
        refine ih (k + 1) h1 (by omega) f1 y1 (fun i' lid' k' v' q1 q2 q3 q4 q5 => ?_)
        by_cases w : i' = i ∧ k' = k
        · obtain ⟨w1, w2⟩ := w
          subst w1; subst w2
          rw [r1] at q2; cases q2
          rw [v1] at q4; cases q4
          exact absurd q5 u
        · exact z1 i' lid' k' v' (by omega) q2 q3 q4 q5
      · rw [ev] at u
        refine c7_forget hS1 (by rw [tags]; exact v3) (fun h2 f2 c2 => ⟨rfl, f2.1.sk hS1, by rw [f2.1.2.1, tags]; exact t6, by rw [f2.1.2.1, tags]; exact t6, by rw [f2.1.2.1, tags]; exact v3, by rw [f2.1.2.1, tags]; exact t6, by rw [f2.1.2.1, tags]; exact v3, ?_⟩)
        refine ih (k + 1) h2 (by omega) (f1.tr (f2.wk (fun x k z => ⟨v, v3, v2, u, z⟩))) ?_ (fun i' lid' k' v' q1 q2 q3 q4 q5 r hr => ?_)
        · intro w r tw hw hr
          by_cases q : w = v
          · subst q; exact ⟨Or.inr (c2 r hr).1, Or.inr (c2 r hr).2⟩
          · have ap := ap88 hS tw v3 q
            have a1 := ap 1 1 (by omega) (by omega)
            have a2 := ap 1 2 (by omega) (by omega)
            have a3 := ap 2 1 (by omega) (by omega)
            have a4 := ap 2 2 (by omega) (by omega)
            rw [f2.2 _ _ (by omega), f2.2 _ _ (by omega)]
            exact y1 w r tw hw hr
        · by_cases q : v' = v
          · subst q; exact c2 r hr
          · have lt : i' < n := by omega
            obtain ⟨⟨lid2, r2, -, -, -, -, -, -, -, -, g62⟩, -⟩ := hl i' lt
            rw [r2] at q2; cases q2
            obtain ⟨v'', w1, -, nt''⟩ := g62 k' q3
            rw [w1] at q4; cases q4
            have ap := ap88 hS nt''.1 v3 q
            have z := z1 i' lid' k' v' (by
              by_cases w : i' = i ∧ k' = k
              · obtain ⟨w1', w2'⟩ := w
                subst w1'; subst w2'
                rw [r1] at r2; cases r2
                rw [v1] at w1; cases w1
                exact absurd rfl q
              · omega) r2 q3 w1 q5 r hr
            have a1 := ap 1 1 (by omega) (by omega)
            have a2 := ap 1 2 (by omega) (by omega)
            have a3 := ap 2 1 (by omega) (by omega)
            have a4 := ap 2 2 (by omega) (by omega)
            rw [f2.2 _ _ (by omega), f2.2 _ _ (by omega)]
            exact z
  refine qX6_forgetHeard hS ?_
  have outer : ∀ (r i : Nat) (h1 : mH), i + r = n → mFr2 (aHd h) h h1 → hdY h h1 → hdZ h h1 J i 0 → mW G kX6_forgetHeard (d + 2) b 2 [some (.inr (some 28)), some (.inl (nI i)), none] [] h1 Q := by
    intro r
    induction r with
    | zero =>
      intro i h1 hi f1 y1 z1
      have : i = n := by omega
      subst this
      refine qX6_forgetHeard_2 _ (f1.1.sk hS) ?_
      rw [low h1 28 1 f1 (by omega), e28]
      exact ⟨fun _ => K h1 f1 y1 z1, fun u => absurd (nI_le (a := i) (Nat.le_refl _) (by omega)) u⟩
    | succ r ih =>
      intro i h1 hi f1 y1 z1
      refine qX6_forgetHeard_2 _ (f1.1.sk hS) ?_
      rw [low h1 28 1 f1 (by omega), e28]
      refine ⟨fun u => absurd u (nI_ge (b := n) (by omega) (by omega)), fun _ => ?_⟩
      exact inner i (by omega) (fun h2 f2 y2 z2 => ih (i + 1) h2 (by omega) f2 y2 z2) (jN (J i)) 0 h1 (by omega) f1 y1 z1
  exact outer n 0 h (by omega) mFr2.rf (fun v r _ _ _ => ⟨Or.inl rfl, Or.inl rfl⟩) (fun i' lid k' v q => by omega)
end
/-- the world with another law -/
def wLaw (W : aW) (L : aLw) : aW := (W.1, W.2.1, L, W.2.2.2)
/-- ints outside A stay, references outside 11 and 27 -/
def lwR (A : Nat → Nat → Prop) (h h' : mH) : Prop := mN h' = mN h ∧ mT h' = mT h ∧ (∀ x k, x ≠ 11 → x ≠ 27 → mR h' x k = mR h x k) ∧ ∀ x k, ¬ A x k → mI h' x k = mI h x k
theorem mFr2.lr {A : Nat → Nat → Prop} {h h' : mH} (f : mFr2 A h h') : lwR A h h' := ⟨f.1.1, f.1.2.1, fun x k _ _ => by rw [f.1.2.2.2], f.2⟩
theorem lwR.tr {A : Nat → Nat → Prop} {h h1 h2 : mH} (a : lwR A h h1) (c : lwR A h1 h2) : lwR A h h2 := ⟨c.1.trans a.1, c.2.1.trans a.2.1, fun x k q1 q2 => (c.2.2.1 x k q1 q2).trans (a.2.2.1 x k q1 q2), fun x k q => (c.2.2.2 x k q).trans (a.2.2.2 x k q)⟩
theorem lwR.wk {A B : Nat → Nat → Prop} {h h1 : mH} (a : lwR A h h1) (hAB : ∀ x k, A x k → B x k) : lwR B h h1 := ⟨a.1, a.2.1, a.2.2.1, fun x k q => a.2.2.2 x k (fun u => q (hAB x k u))⟩
theorem lwR.SR {A : Nat → Nat → Prop} {h : mH} {a k : Nat} {r : Option Nat} (ha : a = 11 ∨ a = 27) : lwR A h (mSR h a k r) := ⟨rfl, rfl, fun x k' q1 q2 => by rw [mR_SR, if_neg (fun z => by omega)], fun _ _ _ => rfl⟩
theorem injX.lr {A : Nat → Nat → Prop} {h h' : mH} (hS : mSk h) (a : lwR A h h') (i : injX h) : injX h' := by
  obtain ⟨-, k2, k4, -⟩ := a
  have t10 := skT_10 hS
  have t26 := skT_26 hS
  have g : ∀ a, mT h a = 6 → ∀ k, mR h' (a + 1) k = mR h (a + 1) k := fun a ha k => k4 _ _ (fun u => by rw [show a = 10 by omega, t10] at ha; omega) (fun u => by rw [show a = 26 by omega, t26] at ha; omega)
  refine ⟨fun i' j a h1 h2 => ?_, fun a a' k k' v h1 h2 h3 h4 => ?_⟩
  · rw [k4 _ _ (by omega) (by omega)] at h1 h2; exact i.1 i' j a h1 h2
  · rw [k2] at h1 h2
    rw [g a h1] at h3
    rw [g a' h2] at h4
    exact i.2 a a' k k' v h1 h2 h3 h4
theorem tyX.lr {A : Nat → Nat → Prop} {h h' : mH} (hS : mSk h) (a : lwR A h h') (i : tyX h) : tyX h' := by
  obtain ⟨-, k2, k4, -⟩ := a
  have t10 := skT_10 hS
  have t26 := skT_26 hS
  refine ⟨fun i' lid h1 => ?_, fun a k v h1 h2 => ?_⟩
  · rw [k4 _ _ (by omega) (by omega)] at h1; rw [k2]; exact i.1 i' lid h1
  · rw [k2] at h1 ⊢
    rw [k4 _ _ (fun u => by rw [show a = 10 by omega, t10] at h1; omega) (fun u => by rw [show a = 26 by omega, t26] at h1; omega)] at h2
    exact i.2 a k v h1 h2
/-- what a new law changes -/
def aRl (h : mH) : Nat → Nat → Prop := fun x k => ((16 ≤ x ∧ x ≤ 25) ∨ x = 93) ∨ x = 27 ∨ (x = 9 ∧ k = 1) ∨ aHd h x k
theorem aRl_lo {h : mH} {x k : Nat} (hx : x < 93) (h1 : ¬ (16 ≤ x ∧ x ≤ 25)) (h2 : x ≠ 27) (h3 : ¬ (x = 9 ∧ k = 1)) : ¬ aRl h x k := by
  rintro (z | z | z | ⟨v, -, z2, -, z3⟩) <;> omega
theorem ne93 {h : mH} {x u : Nat} (hS : mSk h) (tx : mT h x = u) (hu : u ≠ 100) : x ≠ 93 := fun e => hu (by rw [← tx, e]; exact skT_93 hS)
theorem aRl_hi {h : mH} {x k : Nat} (hx : 93 ≤ x) (h93 : x ≠ 93) (h1 : ¬ aHd h x k) : ¬ aRl h x k := by
  rintro (z | z | z | z)
  · omega
  · omega
  · omega
  · exact h1 z
theorem cWo.lw {h h' : mH} {W : aW} {I : Nat → Nat} {L : aLw} (hS : mSk h) (a : lwR (aRl h) h h') (hW : cWo h W I) (hL : lwX h' L) (ok : okLw L) (kc : kcA h' (wLaw W L)) : cWo h' (wLaw W L) I := by
  obtain ⟨h1, h2, h3, h4, h5, h6, h7, h8, h9, h10, h11⟩ := hW
  have ij := h10.lr hS a
  obtain ⟨-, sT, sR, sI⟩ := a
  have lo : ∀ x k, x < 93 → ¬ (16 ≤ x ∧ x ≤ 25) → x ≠ 27 → ¬ (x = 9 ∧ k = 1) → mI h' x k = mI h x k := fun x k q1 q2 q3 q4 => sI _ _ (aRl_lo q1 q2 q3 q4)
  refine ⟨⟨?_, h1.2.1, fun c hc => ⟨?_, ?_⟩⟩, fun c hc => ⟨(h2 c hc).1, ?_⟩, h3, ?_, hL, ok, ⟨?_, h7.2.1, fun i hi => ⟨?_, (h7.2.2 i hi).2⟩⟩, ⟨?_, h8.2⟩, ?_, ij, kc⟩
  · rw [lo 33 1 (by omega) (by omega) (by omega) (by omega)]; exact h1.1
  · rw [sR 34 c (by omega) (by omega)]; exact (h1.2.2 c hc).1
  · have := (h2 c hc).1
    have n93 := ne93 hS (h1.2.2 c hc).2.1 (by decide)
    exact cCo.eq (by rw [sT]) (fun j k hj => sI _ _ (aRl_hi (by omega) (by omega) (aHd_c hS (h1.2.2 c hc).2.1 hj))) (h1.2.2 c hc).2
  · have := (h2 c hc).1
    rw [sI (I c) 0 (aRl_hi this (ne93 hS (h1.2.2 c hc).2.1 (by decide)) (aHd_c (j := 0) hS (h1.2.2 c hc).2.1 (by omega)))]; exact (h2 c hc).2
  · exact soX.eq (lo _ _ (by omega) (by omega) (by omega) (by omega)) (fun a k q1 q2 => lo _ _ (by omega) (by omega) (by omega) (by omega)) h4
  · rw [lo 28 1 (by omega) (by omega) (by omega) (by omega)]; exact h7.1
  · obtain ⟨lid, r1, t6, g93, g0, g1, g2, g3, g4, g5, g6⟩ := (h7.2.2 i hi).1
    have nl : ∀ k, mI h' lid k = mI h lid k := fun k => sI _ _ (aRl_hi g93 (ne93 hS t6 (by decide)) (aHd_l hS t6))
    have t10 := skT_10 hS
    have t26 := skT_26 hS
    refine ⟨lid, by rw [sR _ _ (by omega) (by omega)]; exact r1, by rw [sT]; exact t6, g93, by rw [nl]; exact g0, by rw [nl]; exact g1, by rw [nl]; exact g2, by rw [nl]; exact g3, by rw [nl]; exact g4, by rw [nl]; exact g5, fun k hk => ?_⟩
    obtain ⟨v, v1, v2, v3, v4, v5, v6, v7⟩ := g6 k hk
    have nv : ∀ k', mI h' v k' = mI h v k' := fun k' => sI _ _ (aRl_hi v2 (ne93 hS v3 (by decide)) (aHd_n hS v3))
    exact ⟨v, by rw [sR _ _ (by omega) (by omega)]; exact v1, v2, by rw [sT]; exact v3, by rw [nv]; exact v4, by rw [nv]; exact v5, by rw [nv]; exact v6, by rw [nv]; exact v7⟩
  · rw [lo 28 2 (by omega) (by omega) (by omega) (by omega)]; exact h8.1
  · obtain ⟨⟨q1, q2, q3⟩, q4⟩ := h9
    refine ⟨⟨?_, ?_, fun x hx => ?_⟩, q4⟩
    · rw [lo 28 3 (by omega) (by omega) (by omega) (by omega)]; exact q1
    · rw [lo 28 4 (by omega) (by omega) (by omega) (by omega)]; exact q2
    · rw [lo 28 5 (by omega) (by omega) (by omega) (by omega)]; exact q3 x hx
