/-! worlds that are alike where it matters -/
theorem foV_cg {O O' : Nat → Nat → Nat} {J J' : Nat → aLi} {B : aBx} : ∀ i, (∀ j, j ≤ i → ∀ k, O' j k = O j k) → (∀ j, j ≤ i → jX (J' j) = jX (J j) ∧ jY (J' j) = jY (J j) ∧ jD (J' j) = jD (J j)) → ∀ k, foV O' J' B i k = foV O J B i k := by
  intro i
  induction i with
  | zero =>
    intro hO _ k
    unfold foV
    rw [hO 0 (Nat.le_refl _)]
  | succ i ih =>
    intro hO hJ k
    have e : foV O' J' B i = foV O J B i := funext (ih (fun j hj => hO j (by omega)) (fun j hj => hJ j (by omega)))
    obtain ⟨j1, j2, j3⟩ := hJ (i + 1) (Nat.le_refl _)
    unfold foV
    rw [e, hO (i + 1) (Nat.le_refl _), j1, j2, j3]
theorem prV_cg {O O' : Nat → Nat → Nat} {J J' : Nat → aLi} {B : aBx} : ∀ i, (∀ j, j < i → ∀ k, O' j k = O j k) → (∀ j, j ≤ i → jX (J' j) = jX (J j) ∧ jY (J' j) = jY (J j) ∧ jD (J' j) = jD (J j)) → ∀ k, prV O' J' B i k = prV O J B i k
  | 0, _, _, k => rfl
  | i + 1, hO, hJ, k => by
    have e : foV O' J' B i = foV O J B i := funext (foV_cg i (fun j hj => hO j (by omega)) (fun j hj => hJ j (by omega)))
    obtain ⟨j1, j2, j3⟩ := hJ (i + 1) (Nat.le_refl _)
    rw [prV_s, prV_s, e, j1, j2, j3]
theorem beV_cg {O O' : Nat → Nat → Nat} {J : Nat → aLi} {n : Nat} : ∀ r, r < n → (∀ j, j < n → ∀ k, O' j k = O j k) → ∀ k, beV O' J n r k = beV O J n r k := by
  intro r
  induction r with
  | zero =>
    intro hr hO k
    unfold beV
    rw [hO _ (by omega)]
  | succ r ih =>
    intro hr hO k
    have e : beV O' J n r = beV O J n r := funext (ih (by omega) hO)
    unfold beV
    rw [e, hO _ (by omega)]
theorem rch.cg {h : mH} {a : Nat} {W W' : aW} {c ld nd : Nat} (hs : ws W' = ws W) (hl : ld ≤ wl W') (hF : ∀ i, i + 1 < ld → ∀ k, wF W' c i k = wF W c i k) (hP : ∀ i, i + 1 = ld → nd ≤ jN (wJ W' i) ∧ ∀ x y, pV W' c i nd x y = pV W c i nd x y) (r : rch h a W c ld nd) : rch h a W' c ld nd := by
  obtain ⟨r1, r2, r3, r4, r5, r6⟩ := r
  refine ⟨r1, r2, hl, fun i hi => (hP i hi).1, fun i hi w x y q1 q2 q3 => ?_, fun i hi w x y q1 q2 q3 => ?_⟩
  · rw [hs] at q1
    have := r5 i hi w x y q1 q2 q3
    rw [this]
    show decide (wF W c i (32 * y + x) ≤ w) = decide (wF W' c i (32 * y + x) ≤ w)
    rw [hF i hi]
  · rw [hs] at q1
    have := r6 i hi w x y q1 q2 q3
    rw [this, (hP i hi).2]
theorem rch.z {h : mH} {a : Nat} {W : aW} {c : Nat} (h1 : mI h a 10 = nI 0) (h2 : mI h a 11 = nI 0) : rch h a W c 0 0 := ⟨h1, h2, Nat.zero_le _, fun i hi => by omega, fun i hi => by omega, fun i hi => by omega⟩
/-- low cells stay but for A -/
def lwK (A : Nat → Nat → Prop) (h h' : mH) : Prop := (∀ x k, x < 93 → ¬ A x k → mI h' x k = mI h x k) ∧ ∀ k, mR h' 11 k = mR h 11 k
theorem lwK.rf {A : Nat → Nat → Prop} {h : mH} : lwK A h h := ⟨fun _ _ _ _ => rfl, fun _ => rfl⟩
theorem lwK.tr {A : Nat → Nat → Prop} {a b c : mH} (h1 : lwK A a b) (h2 : lwK A b c) : lwK A a c := ⟨fun x k hx hA => (h2.1 x k hx hA).trans (h1.1 x k hx hA), fun k => (h2.2 k).trans (h1.2 k)⟩
theorem lwK.wk {A B : Nat → Nat → Prop} {a b : mH} (h1 : lwK A a b) (hAB : ∀ x k, x < 93 → A x k → B x k) : lwK B a b := ⟨fun x k hx hB => h1.1 x k hx (fun z => hB (hAB x k hx z)), h1.2⟩
theorem mFr2.lk {A : Nat → Nat → Prop} {h h' : mH} (f : mFr2 A h h') : lwK A h h' := ⟨fun x k _ hA => f.2 _ _ hA, fun k => by rw [f.1.2.2.2]⟩
theorem mGr.lk {A : Nat → Nat → Prop} {h h' : mH} (hS : mSk h) (g : mGr h h') : lwK A h h' := ⟨fun x k hx _ => by rw [(g.2 x (by have := hS.2.2.1.1; omega)).2.2.2], fun k => by rw [(g.2 11 (by have := hS.2.2.1.1; omega)).2.2.1]⟩
theorem lwK.SR {A : Nat → Nat → Prop} {h : mH} {a k : Nat} {r : Option Nat} (ha : a ≠ 11) : lwK A h (mSR h a k r) := ⟨fun _ _ _ _ => rfl, fun k' => by rw [mR_SR, if_neg (fun z => ha z.1.symm)]⟩
theorem lwK.SI {A : Nat → Nat → Prop} {h : mH} {a k : Nat} {v : Int32} (hA : a < 93 → A a k) : lwK A h (mSI h a k v) := ⟨fun x k' hx hn => by
  rw [mI_SI, if_neg]
  rintro ⟨rfl, rfl⟩
  exact hn (hA hx), fun _ => rfl⟩
theorem mWo.lk {A : Nat → Nat → Prop} {h h' : mH} {W : aW} (l : lwK A h h') (hA : ∀ a k, dM a k → ¬ A a k) (hW : mWo h W) : mWo h' W := by
  have f : mFr2 (fun x k => A x k ∨ 93 ≤ x) h (mN h, mT h, mL h, mI h', mR h) := ⟨⟨rfl, rfl, rfl, rfl⟩, fun a k q => l.1 a k (by omega) (fun z => q (Or.inl z))⟩
  have g : mWo (mN h, mT h, mL h, mI h', mR h) W := mWo.fr f (fun a k z q => by
    rcases q with q | q
    · exact hA a k z q
    · unfold dM at z; omega) hW
  exact g
theorem cWo.ld {h : mH} {W : aW} {I : Nat → Nat} {c k : Nat} {v : Int32} (hS : mSk h) (hc : c < wn W) (hk : k = 10 ∨ k = 11) (hW : cWo h W I) : cWo (mSI h (I c) k v) W I := by
  have ta := (hW.1.2.2 c hc).2.1
  have ha := (hW.2.1 c hc).1
  have g : mFr2 (fun x k' => x = I c ∧ k' = k) h (mSI h (I c) k v) := mFr2.SI ⟨rfl, rfl⟩
  refine cWo.fl hS hc (g.wk (fun x k' z => Or.inl ⟨z.1, by omega⟩)) (cSw.fr g (fun k' z => by omega) (fun k' z => by omega) (hW.1.2.2 c hc).2.2.2.2.2) (kcA.fr g hW.2.2.2.2.2.2.1 (fun v' j k' tv hv hj z => ?_) hW.2.2.2.2.2.2.2.2.2.2) hW
  exact ap82 hS tv ta j 0 (by omega) (by omega) (by omega)
theorem kcZ.ld {h : mH} {W : aW} {a k : Nat} {v : Int32} (hS : mSk h) (ta : mT h a = 2) (kz : kcZ h W) : kcZ (mSI h a k v) W := by
  intro v' r tv hv q1 q2
  have ap := ap82 hS tv ta
  have n1 : v' + 1 ≠ a := ap 1 0 (by omega) (by omega)
  have n2 : v' + 2 ≠ a := ap 2 0 (by omega) (by omega)
  rw [mI_SI_a n1, mI_SI_a n2]
  exact kz v' r tv hv q1 q2
theorem rch.ld {h : mH} {a a' k : Nat} {v : Int32} {W : aW} {c ld nd : Nat} (hS : mSk h) (ta : mT h a = 2) (ta' : mT h a' = 2) (hne : a ≠ a') (r : rch h a W c ld nd) : rch (mSI h a' k v) a W c ld nd := by
  have ap := ap22 hS ta ta' hne
  exact r.eq (fun j k' hj => mI_SI_a (ap j 0 hj (by omega)))
section
variable {G : mG} {d : Nat} {b : Nat × Nat} {h : mH} {Q : Option mV → mH → Prop}
/-- all coasts are to be followed anew -/
theorem c0_restart {W : aW} {I : Nat → Nat} (hS : mSk h) (hW : cWo h W I) (kz : kcZ h W) (ty : tyX h) (K : ∀ h', mFr2 (fun x k => 93 ≤ x) h h' → cSt h' W I → Q none h') : mC G kX0_restart d b [.inr (some 33)] h Q := by
  have hn8 := hW.1.2.1
  refine qX0_restart hS ?_
  refine mloop (W := fun c h1 => mW G kX0_restart d b 2 [some (.inr (some 33)), some (.inl (nI c))] [] h1 Q)
    (P := fun c h1 => mFr2 (fun x k => 93 ≤ x) h h1 ∧ cWo h1 W I ∧ kcZ h1 W ∧ ∀ c', c' < c → rch h1 (I c') W c' 0 0) (wn W) ?_ ?_ 0 h (by omega) ⟨mFr2.rf, hW, kz, fun c' z => by omega⟩
  · rintro c h1 hc ⟨f1, w1, z1, r1⟩ ih
    have hS1 := f1.1.sk hS
    have ta := (w1.1.2.2 c hc).2.1
    have ha := (w1.2.1 c hc).1
    have eR := (w1.1.2.2 c hc).1
    refine qX0_restart_2 _ hS1 ⟨fun z => absurd z (by rw [w1.1.1]; exact nI_ge hc (by omega)), fun _ => ⟨vp_in_nI (by omega) (by omega), I c, by rw [nI_clamp (by omega)]; exact eR, ta, fun h2 e2 => ?_⟩⟩
    rw [nI_clamp (by omega)]
    refine ⟨vp_in_nI (by omega) (by omega), I c, by rw [e2]; exact eR, by rw [e2]; exact ta, fun h3 e3 => ?_⟩
    rw [nI_1, e3, e2]
    have w2 : cWo (mSI h1 (I c) 10 0) W I := w1.ld hS1 hc (Or.inl rfl)
    refine ih _ ⟨(f1.tr (mFr2.SI (by omega))).tr (mFr2.SI (by omega)), w2.ld (sk_SI hS1) hc (Or.inr rfl), (z1.ld hS1 ta).ld (sk_SI hS1) ta, fun c' hc' => ?_⟩
    by_cases e : c' = c
    · subst e
      exact rch.z (by rw [mI_SI_k (by omega), mI_SI_s]; rfl) (by rw [mI_SI_s]; rfl)
    · have hne : I c' ≠ I c := fun q => e (w1.2.2.1 c' c (by omega) hc q)
      have tx := (w1.1.2.2 c' (by omega)).2.1
      exact ((r1 c' (by omega)).ld hS1 tx ta hne).ld (sk_SI hS1) tx ta hne
  · rintro h1 ⟨f1, w1, z1, r1⟩
    exact qX0_restart_2 _ (f1.1.sk hS) ⟨fun _ => K h1 f1 ⟨w1, fun c hc => ⟨0, 0, r1 c hc⟩, z1, ty.kp f1.1⟩, fun z => absurd (by rw [w1.1.1]; exact nI_le (by omega) (by omega)) z⟩
end
