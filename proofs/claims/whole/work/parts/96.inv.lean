/-! the invariant of the law -/
/-- choices were weighed only with a line in the log -/
def wyQ (h : mH) (W : aW) : Prop := wyC h W ∧ (mI h 41 12 = mI h 8 7 → 0 < wl W) ∧ (mI h 41 13 = mI h 8 7 → 0 < wl W)
theorem wyQ.fr {A : Nat → Nat → Prop} {h h' : mH} {W : aW} (f : mFr2 A h h') (h0 : ¬ A 8 7) (h1 : ∀ k, ¬ A 38 k) (h2 : ∀ k, ¬ A 40 k) (h3 : ¬ A 41 12) (h4 : ¬ A 41 13) (s : wyQ h W) : wyQ h' W :=
  ⟨s.1.fr f h0 h1 h2, fun z => s.2.1 (by rw [f.2 _ _ h0, f.2 _ _ h3] at z; exact z), fun z => s.2.2 (by rw [f.2 _ _ h0, f.2 _ _ h4] at z; exact z)⟩
def caI (h : mH) (W : aW) (I : Nat → Nat) (CH : aCc) : Prop := plC h W ∧ suC h W I ∧ weC h W CH ∧ w2C h W CH ∧ wyQ h W
def cIn (h : mH) (W : aW) (I : Nat → Nat) (n : Nat) (t : Nat → Nat) (CH : aCc) (j : Nat) : Prop := mSk h ∧ cSt h W I ∧ tpX h n t ∧ chX h CH ∧ spX h ∧ (mI h 8 7 = nI j ∧ j < 90000) ∧ caI h W I CH
def mIn (h : mH) (W : aW) (n : Nat) (t : Nat → Nat) (CH : aCc) : Prop := mWo h W ∧ tpM h n t ∧ chM h CH
/-- the cells of the caches -/
def caK (x k : Nat) : Prop := (x = 8 ∧ k = 7) ∨ (x = 28 ∧ 10 ≤ k) ∨ x = 32 ∨ (x = 33 ∧ (k = 2 ∨ k = 6)) ∨ x = 35 ∨ x = 36 ∨ x = 38 ∨ x = 40 ∨ (x = 41 ∧ 4 ≤ k)
theorem weC.fr {A : Nat → Nat → Prop} {h h' : mH} {W : aW} {CH : aCc} (f : mFr2 A h h') (h1 : ¬ A 8 7) (h2 : ∀ k, 4 ≤ k → ¬ A 41 k) (c : weC h W CH) : weC h' W CH := by
  refine ⟨fun z => ?_, by rw [f.2 _ _ h1, f.2 _ _ (h2 12 (by omega))]; exact c.2⟩
  rw [f.2 _ _ h1, f.2 _ _ (h2 12 (by omega))] at z
  obtain ⟨q1, q2⟩ := c.1 z
  exact ⟨by rw [f.2 _ _ (h2 4 (by omega))]; exact q1, fun j hj => by rw [f.2 _ _ (h2 5 (by omega)), f.2 _ _ (h2 6 (by omega)), f.2 _ _ (h2 7 (by omega))]; exact q2 j hj⟩
theorem w2C.fr {A : Nat → Nat → Prop} {h h' : mH} {W : aW} {CH : aCc} (f : mFr2 A h h') (h1 : ¬ A 8 7) (h2 : ∀ k, 4 ≤ k → ¬ A 41 k) (c : w2C h W CH) : w2C h' W CH := by
  refine ⟨fun z => ?_, by rw [f.2 _ _ h1, f.2 _ _ (h2 13 (by omega))]; exact c.2⟩
  rw [f.2 _ _ h1, f.2 _ _ (h2 13 (by omega))] at z
  obtain ⟨q1, q2⟩ := c.1 z
  exact ⟨by rw [f.2 _ _ (h2 4 (by omega))]; exact q1, fun j hj => by rw [f.2 _ _ (h2 8 (by omega)), f.2 _ _ (h2 9 (by omega))]; exact q2 j hj⟩
theorem caI.fr {A : Nat → Nat → Prop} {h h' : mH} {W : aW} {I : Nat → Nat} {CH : aCc} (f : mFr2 A h h') (k : flK h h' W I) (hA : ∀ x k, caK x k → ¬ A x k) (c : caI h W I CH) : caI h' W I CH := by
  obtain ⟨c1, c2, c3, c4, c5⟩ := c
  have g : ∀ x k, caK x k → ¬ A x k := hA
  exact ⟨c1.fr f (g _ _ (by unfold caK; omega)) (fun k hk => g _ _ (by unfold caK; omega)) (fun k => g _ _ (by unfold caK; omega)), c2.fr f k (g _ _ (by unfold caK; omega)) (g _ _ (by unfold caK; omega)) (g _ _ (by unfold caK; omega)) (fun k => ⟨g _ _ (by unfold caK; omega), g _ _ (by unfold caK; omega)⟩), c3.fr f (g _ _ (by unfold caK; omega)) (fun k hk => g _ _ (by unfold caK; omega)), c4.fr f (g _ _ (by unfold caK; omega)) (fun k hk => g _ _ (by unfold caK; omega)), c5.fr f (g _ _ (by unfold caK; omega)) (fun k => g _ _ (by unfold caK; omega)) (fun k => g _ _ (by unfold caK; omega)) (g _ _ (by unfold caK; omega)) (g _ _ (by unfold caK; omega))⟩
theorem stB.up {s c c' : Int32} {j : Nat} (h : stB s c) (e : c = nI j) (hj : j < 90000) (e' : c' = nI (j + 1)) : s ≠ c' ∧ stB s c' := by
  obtain ⟨i, j', e1, e2, h1, h2⟩ := h
  have : j' = j := nI_bk (by omega) (by omega) (by rw [← e2, e])
  subst this
  refine ⟨fun u => ?_, i, j' + 1, e1, e', by omega, by omega⟩
  rw [e1, e'] at u
  have := nI_bk (by omega) (by omega) u
  omega
/-- a change makes all that was remembered old -/
theorem caI.up {h h' : mH} {W W' : aW} {I I' : Nat → Nat} {CH CH' : aCc} {j : Nat} (c : caI h W I CH) (e : mI h 8 7 = nI j) (hj : j < 90000) (e' : mI h' 8 7 = nI (j + 1)) (g : ∀ x k, ((x = 28 ∧ k = 12) ∨ (x = 33 ∧ k = 6) ∨ (x = 41 ∧ (k = 12 ∨ k = 13)) ∨ (x = 38 ∧ k = 7)) → mI h' x k = mI h x k) : caI h' W' I' CH' := by
  obtain ⟨c1, c2, c3, c4, c5⟩ := c
  have b1 := c1.2.up e hj e'
  have b2 := c2.2.up e hj e'
  have b3 := c3.2.up e hj e'
  have b4 := c4.2.up e hj e'
  have b5 := c5.1.2.up e hj e'
  rw [← g 28 12 (by omega)] at b1
  rw [← g 33 6 (by omega)] at b2
  rw [← g 41 12 (by omega)] at b3
  rw [← g 41 13 (by omega)] at b4
  rw [← g 38 7 (by omega)] at b5
  exact ⟨⟨fun z => absurd z b1.1, b1.2⟩, ⟨fun z => absurd z b2.1, b2.2⟩, ⟨fun z => absurd z b3.1, b3.2⟩, ⟨fun z => absurd z b4.1, b4.2⟩, ⟨⟨fun z => absurd z b5.1, b5.2⟩, fun z => absurd z b3.1, fun z => absurd z b4.1⟩⟩
/-- the class's part over a call of the model -/
theorem cIn.fr {A : Nat → Nat → Prop} {h h' : mH} {W : aW} {I : Nat → Nat} {n j : Nat} {t : Nat → Nat} {CH : aCc} (C : cIn h W I n t CH j) (f : mFr2 A h h') (hA : ∀ x k, A x k → 47 ≤ x ∧ x ≤ 92) : cIn h' W I n t CH j := by
  obtain ⟨hS, st, tp, ch, sp, ⟨e8, hj⟩, ca⟩ := C
  have g : ∀ x k, x < 47 → ¬ A x k := fun x k hx z => by have := hA x k z; omega
  refine ⟨f.1.sk hS, st.lo f (fun x k z => ⟨by have := hA x k z; omega, by have := hA x k z; unfold wl0; omega⟩), ⟨by rw [f.2 _ _ (g _ _ (by omega))]; exact tp.1, tp.2.1, fun j hj => ⟨(tp.2.2 j hj).1, by rw [f.2 _ _ (g _ _ (by omega))]; exact (tp.2.2 j hj).2⟩⟩, ch.fr f (g _ _ (by omega)) (fun a k _ _ => g _ _ (by omega)), ?_, ⟨by rw [f.2 _ _ (g _ _ (by omega))]; exact e8, hj⟩, ca.fr f (flK.lo st.1 f (fun x k q z => by have := hA x k z; omega)) (fun x k z => g _ _ (by unfold caK at z; omega))⟩
  obtain ⟨l, l', h1, h2, h3, h4, h5⟩ := sp
  exact ⟨l, l', h1, by rw [f.1.2.2.2]; exact h2, by rw [f.1.2.2.2]; exact h3, by rw [f.2 _ _ (g _ _ (by omega))]; exact h4, by rw [f.2 _ _ (g _ _ (by omega))]; exact h5⟩
/-- the model's part over a call of the class -/
theorem mIn.ci {h h' : mH} {W : aW} {n : Nat} {t : Nat → Nat} {CH : aCc} (M : mIn h W n t CH) (e : ∀ x k, 47 ≤ x → x ≤ 92 → mI h' x k = mI h x k) : mIn h' W n t CH := by
  have g : mWo (mN h', mT h', mL h', mI h', mR h) W := mWo.lk (A := fun x k => ¬ (47 ≤ x ∧ x ≤ 92)) (h := h) (h' := (mN h', mT h', mL h', mI h', mR h)) ⟨fun x k _ q => by have q' := Classical.not_not.mp q; exact e x k q'.1 q'.2, fun k => rfl⟩ (fun a k z q => q (by unfold dM at z; omega)) M.1
  refine ⟨g, ⟨by rw [e _ _ (by omega) (by omega)]; exact M.2.1.1, M.2.1.2.1, fun j hj => ⟨(M.2.1.2.2 j hj).1, by rw [e _ _ (by omega) (by omega)]; exact (M.2.1.2.2 j hj).2⟩⟩, by rw [e _ _ (by omega) (by omega)]; exact M.2.2.1, M.2.2.2.1, fun i hi hb => ?_⟩
  rw [e _ _ (by omega) (by omega), e _ _ (by omega) (by omega), e _ _ (by omega) (by omega)]
  exact M.2.2.2.2 i hi hb
theorem mIn.fr {A : Nat → Nat → Prop} {h h' : mH} {W W' : aW} {n : Nat} {t : Nat → Nat} {CH : aCc} (M : mIn h W n t CH) (f : mFr2 A h h') (hA : ∀ x k, A x k → ¬ (x = 57 ∨ (x = 47 ∧ (k = 12 ∨ k = 52)) ∨ (81 ≤ x ∧ x ≤ 83))) (w : mWo h' W') : mIn h' W' n t CH := by
  have g : ∀ x k, (x = 57 ∨ (x = 47 ∧ (k = 12 ∨ k = 52)) ∨ (81 ≤ x ∧ x ≤ 83)) → ¬ A x k := fun x k q z => hA x k z q
  exact ⟨w, ⟨by rw [f.2 _ _ (g _ _ (by omega))]; exact M.2.1.1, M.2.1.2.1, fun j hj => ⟨(M.2.1.2.2 j hj).1, by rw [f.2 _ _ (g _ _ (by omega))]; exact (M.2.1.2.2 j hj).2⟩⟩, M.2.2.fr f (g _ _ (by omega)) (fun a k q1 q2 => g _ _ (by omega))⟩
/-- the class's part over a call of its own that only asks -/
def qC (x k : Nat) : Prop := 93 ≤ x ∨ x = 20 ∨ x = 25 ∨ x = 26 ∨ (30 ≤ x ∧ x ≤ 32) ∨ (35 ≤ x ∧ x ≤ 40) ∨ x = 45 ∨ x = 46 ∨ ((x = 16 ∨ x = 21) ∧ (k = 6 ∨ k = 7)) ∨ (x = 28 ∧ 10 ≤ k) ∨ (x = 33 ∧ (k = 2 ∨ k = 6)) ∨ (x = 41 ∧ 4 ≤ k)
theorem cIn.q {A : Nat → Nat → Prop} {h h' : mH} {W : aW} {I : Nat → Nat} {n j : Nat} {t : Nat → Nat} {CH : aCc} (C : cIn h W I n t CH j) (f : mFr2 A h h') (hA : ∀ x k, A x k → qC x k) (st : cSt h' W I) (ca : caI h' W I CH) : cIn h' W I n t CH j := by
  obtain ⟨hS, -, tp, ch, sp, ⟨e8, hj⟩, -⟩ := C
  have g : ∀ x k, ¬ qC x k → ¬ A x k := fun x k q z => q (hA x k z)
  refine ⟨f.1.sk hS, st, ⟨by rw [f.2 _ _ (g _ _ (by unfold qC; omega))]; exact tp.1, tp.2.1, fun j hj => ⟨(tp.2.2 j hj).1, by rw [f.2 _ _ (g _ _ (by unfold qC; omega))]; exact (tp.2.2 j hj).2⟩⟩, ch.fr f (g _ _ (by unfold qC; omega)) (fun a k _ _ => g _ _ (by unfold qC; omega)), ?_, ⟨by rw [f.2 _ _ (g _ _ (by unfold qC; omega))]; exact e8, hj⟩, ca⟩
  obtain ⟨l, l', h1, h2, h3, h4, h5⟩ := sp
  exact ⟨l, l', h1, by rw [f.1.2.2.2]; exact h2, by rw [f.1.2.2.2]; exact h3, by rw [f.2 _ _ (g _ _ (by unfold qC; omega))]; exact h4, by rw [f.2 _ _ (g _ _ (by unfold qC; omega))]; exact h5⟩
theorem q_m {A : Nat → Nat → Prop} {h h' : mH} {W : aW} {n : Nat} {t : Nat → Nat} {CH : aCc} (M : mIn h W n t CH) (f : mFr2 A h h') (hA : ∀ x k, A x k → qC x k) : mIn h' W n t CH :=
  M.ci (fun x k q1 q2 => f.2 _ _ (fun z => by have := hA x k z; unfold qC at this; omega))
/-- a call of both -/
def opR (G : mG) (d : Nat) (k2 : mM) (a2 : List mV) (T : Prop → Prop) (P : mH → Prop) (Q : Option mV → mH → Prop) : Option mV → mH → Prop := fun r h1 => ∃ x, r = some (.inl x) ∧ mSk h1 ∧ T (mC G k2 d (0, 0) a2 h1 (fun r h2 => ∃ y, r = some (.inl y) ∧ mSk h2 ∧ ((x = y → P h2) ∧ (¬ x = y → Q (some (.inl 0)) h2))))
def inK (P : mH → Prop) (j : Nat) : Prop := ∀ h W I n t CH j', cIn h W I n t CH j' → mIn h W n t CH → j' ≤ j + 1 → P h
theorem aF1_q {x k : Nat} (z : aF1 x k) : qC x k := by unfold aF1 aEr aEar at z; unfold qC; omega
theorem aPl_q {x k : Nat} (z : aPl x k) : qC x k := by unfold aPl aF1 aEr aEar at z; unfold qC; omega
theorem aSu_q {x k : Nat} (z : aSu x k) : qC x k := by unfold aSu aF1 aEr aEar at z; unfold qC; omega
theorem aFo_m {x k : Nat} (z : aFo x k) : (47 ≤ x ∧ x ≤ 92) ∧ ¬ dM x k ∧ ¬ (x = 57 ∨ (x = 47 ∧ (k = 12 ∨ k = 52)) ∨ (81 ≤ x ∧ x ≤ 83)) := by unfold aFo at z; unfold dM; omega
