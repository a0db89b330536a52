/-! new cells -/
def mGr (h h' : mH) : Prop := mN h ≤ mN h' ∧ ∀ a, a < mN h → mT h' a = mT h a ∧ mL h' a = mL h a ∧ mR h' a = mR h a ∧ mI h' a = mI h a
theorem mGr.rf {h : mH} : mGr h h := ⟨Nat.le_refl _, fun _ _ => ⟨rfl, rfl, rfl, rfl⟩⟩
theorem mGr.tr {a b c : mH} (h1 : mGr a b) (h2 : mGr b c) : mGr a c := ⟨Nat.le_trans h1.1 h2.1, fun x hx => by
  obtain ⟨p1, p2, p3, p4⟩ := h1.2 x hx
  obtain ⟨q1, q2, q3, q4⟩ := h2.2 x (Nat.lt_of_lt_of_le hx h1.1)
  exact ⟨q1.trans p1, q2.trans p2, q3.trans p3, q4.trans p4⟩⟩
theorem mGr.al {h : mH} (t n : Nat) : mGr h (mAl h t n) := ⟨Nat.le_succ _, fun a ha => by
  have hne : a ≠ h.1 := fun e => by rw [e] at ha; exact Nat.lt_irrefl _ ha
  exact ⟨if_neg hne, if_neg hne, if_neg hne, if_neg hne⟩⟩
theorem mGr.sr {h h' : mH} (g : mGr h h') {a k : Nat} {r : Option Nat} (ha : mN h ≤ a) : mGr h (mSR h' a k r) := ⟨g.1, fun x hx => by
  obtain ⟨p1, p2, p3, p4⟩ := g.2 x hx
  exact ⟨p1, p2, (if_neg (by omega)).trans p3, p4⟩⟩
theorem mGr.si {h h' : mH} (g : mGr h h') {a k : Nat} {v : Int32} (ha : mN h ≤ a) : mGr h (mSI h' a k v) := ⟨g.1, fun x hx => by
  obtain ⟨p1, p2, p3, p4⟩ := g.2 x hx
  exact ⟨p1, p2, p3, (if_neg (by omega)).trans p4⟩⟩
theorem tag_lt {h : mH} (hS : mSk h) {a : Nat} (ht : mT h a ≠ 0) : a < mN h := by
  apply Classical.byContradiction
  intro z
  exact ht (hS.2.2.1.2 a (by omega))
theorem sk_nz : (∀ q ∈ skBTL, q.2.2.1 ≠ 0 ∧ q.1 ≠ 0) ∧ ∀ q ∈ skBRL, q.1 ≠ 0 := by decide +kernel
theorem sk_gr {h h' : mH} (hS : mSk h) (g : mGr h h') (h0 : ∀ a, mN h' ≤ a → mT h' a = 0)
    (hb : ∀ q ∈ skBTL, ∀ a, mN h ≤ a → mT h' a = q.1 → mT h' (a + q.2.1) = q.2.2.1 ∧ mL h' (a + q.2.1) = q.2.2.2)
    (hr : ∀ q ∈ skBRL, ∀ a, mN h ≤ a → mT h' a = q.1 → mR h' a q.2.1 = some (a + q.2.2)) : mSk h' := by
  have h93 := hS.2.2.1.1
  refine ⟨fun q hq => ?_, fun q hq => ?_, ⟨Nat.le_trans h93 g.1, h0⟩, fun q hq a ha => ?_, fun q hq a ha => ?_⟩
  · have h1 := sk_ids.1 q hq
    obtain ⟨p1, p2, -, -⟩ := g.2 q.1 (by omega)
    rw [p1, p2]; exact hS.1 q hq
  · have h1 := sk_ids.2 q hq
    obtain ⟨-, -, p3, -⟩ := g.2 q.1 (by omega)
    rw [p3]; exact hS.2.1 q hq
  · by_cases z : mN h ≤ a
    · exact hb q hq a z ha
    · rw [(g.2 a (by omega)).1] at ha
      have := hS.2.2.2.1 q hq a ha
      have hlt := tag_lt hS (a := a + q.2.1) (by rw [this.1]; exact (sk_nz.1 q hq).1)
      obtain ⟨p1, p2, -, -⟩ := g.2 _ hlt
      rw [p1, p2]; exact this
  · by_cases z : mN h ≤ a
    · exact hr q hq a z ha
    · rw [(g.2 a (by omega)).1] at ha
      rw [(g.2 a (by omega)).2.2.1]
      exact hS.2.2.2.2 q hq a ha
theorem mT_Al {h : mH} {t n a : Nat} : mT (mAl h t n) a = if a = mN h then t else mT h a := rfl
theorem mL_Al {h : mH} {t n a : Nat} : mL (mAl h t n) a = if a = mN h then n else mL h a := rfl
theorem mN_Al {h : mH} {t n : Nat} : mN (mAl h t n) = mN h + 1 := rfl
theorem mR_Al {h : mH} {t n a k : Nat} : mR (mAl h t n) a k = if a = mN h then none else mR h a k := by
  show (if a = h.1 then fun _ => none else h.2.2.2.2 a) k = if a = h.1 then none else h.2.2.2.2 a k
  split <;> rfl
theorem mI_Al {h : mH} {t n a k : Nat} : mI (mAl h t n) a k = if a = mN h then 0 else mI h a k := by
  show (if a = h.1 then fun _ => 0 else h.2.2.2.1 a) k = if a = h.1 then 0 else h.2.2.2.1 a k
  split <;> rfl
/-- new lines have no notes, new notes no memory -/
def nwX (h h' : mH) : Prop := (∀ a k, mN h ≤ a → mT h' a = 6 → mR h' (a + 1) k = none) ∧ ∀ a r, mN h ≤ a → mT h' a = 8 → mI h' (a + 1) r = 0 ∧ mI h' (a + 2) r = 0
section
variable {G : mG} {d : Nat} {b1 b2 : Nat} {h : mH} {Q : Option mV → mH → Prop}
theorem c5_init {h3 : mH} (hS : mSk h) (e3 : h3 = mAl h 6 0) (K : ∀ h', mGr h h' → mSk h' → nwX h h' → mN h' = mN h + 2 → mT h' (mN h) = 6 → Q none h') : mC G kX5_init (d + 1) (b1 + 1, b2 + 6) [.inr (some (mN h))] h3 Q := by
  have tg0 : ∀ a, mN h ≤ a → mT h a = 0 := hS.2.2.1.2
  subst e3
  refine qX5_init (mN h) (by rw [mT_Al, if_pos rfl]) (by rw [mN_Al]; omega) (fun h1 e1 h2 e2 => ?_)
  rw [mN_Al] at e2
  have g : mGr h h2 := by rw [e2, e1]; exact ((mGr.al 6 0).tr (mGr.al 112 6)).sr (Nat.le_refl _)
  have eT : ∀ a, mT h2 a = if a = mN h + 1 then 112 else if a = mN h then 6 else mT h a := fun a => by rw [e2, e1]; rfl
  have eL : ∀ a, mL h2 a = if a = mN h + 1 then 6 else if a = mN h then 0 else mL h a := fun a => by rw [e2, e1]; rfl
  have eN : mN h2 = mN h + 2 := by rw [e2, e1]; rfl
  have eR : ∀ a k, mR h2 a k = if a = mN h ∧ k = 6 then some (mN h + 1) else if a = mN h + 1 then none else if a = mN h then none else mR h a k := fun a k => by
    rw [e2, mR_SR, e1, mR_Al, mR_Al, mN_Al]
  have hsk : mSk h2 := by
    refine sk_gr hS g (fun a ha => ?_) (fun q hq a ha ht => ?_) (fun q hq a ha ht => ?_)
    · rw [eT, if_neg (by omega), if_neg (by omega)]; exact tg0 a (by omega)
    · rw [eT] at ht
      by_cases z1 : a = mN h + 1
      · rw [if_pos z1] at ht
        exact absurd ht.symm (by revert q; decide)
      · rw [if_neg z1] at ht
        by_cases z2 : a = mN h
        · rw [if_pos z2] at ht
          have : q = (6, 1, 112, 6) := by revert q; decide
          subst this
          subst z2
          rw [eT, eL, if_pos rfl, if_pos rfl]; exact ⟨rfl, rfl⟩
        · rw [if_neg z2, tg0 a ha] at ht
          exact absurd ht.symm (sk_nz.1 q hq).2
    · rw [eT] at ht
      by_cases z1 : a = mN h + 1
      · rw [if_pos z1] at ht
        exact absurd ht.symm (by revert q; decide)
      · rw [if_neg z1] at ht
        by_cases z2 : a = mN h
        · rw [if_pos z2] at ht
          have : q = (6, 6, 1) := by revert q; decide
          subst this
          subst z2
          rw [eR, if_pos ⟨rfl, rfl⟩]
        · rw [if_neg z2, tg0 a ha] at ht
          exact absurd ht.symm (sk_nz.2 q hq)
  refine K h2 g hsk ⟨fun a k ha ht => ?_, fun a r ha ht => ?_⟩ eN (by rw [eT, if_neg (by omega), if_pos rfl])
  · rw [eT] at ht
    by_cases z1 : a = mN h + 1
    · rw [if_pos z1] at ht; omega
    · rw [if_neg z1] at ht
      by_cases z2 : a = mN h
      · rw [eR, if_neg (by omega), if_pos (by omega)]
      · rw [if_neg z2, tg0 a ha] at ht; omega
  · rw [eT] at ht
    by_cases z1 : a = mN h + 1
    · rw [if_pos z1] at ht; omega
    · rw [if_neg z1] at ht
      by_cases z2 : a = mN h
      · rw [if_pos z2] at ht; omega
      · rw [if_neg z2, tg0 a ha] at ht; omega
theorem c7_init {h3 : mH} (hS : mSk h) (e3 : h3 = mAl h 8 0) (K : ∀ h', mGr h h' → mSk h' → nwX h h' → mN h' = mN h + 3 → mT h' (mN h) = 8 → Q none h') : mC G kX7_init (d + 1) (b1 + 2, b2 + 512) [.inr (some (mN h))] h3 Q := by
  have tg0 : ∀ a, mN h ≤ a → mT h a = 0 := hS.2.2.1.2
  subst e3
  refine qX7_init (mN h) (by rw [mT_Al, if_pos rfl]) (by rw [mN_Al]; omega) (fun h1 e1 h2 e2 h3 e3 h4 e4 => ?_)
  have g : mGr h h4 := by rw [e4, e3, e2, e1]; exact (((((mGr.al 8 0).tr (mGr.al 100 256)).sr (Nat.le_refl _))).tr (mGr.al 100 256)).sr (Nat.le_refl _)
  have eT : ∀ a, mT h4 a = if a = mN h + 2 then 100 else if a = mN h + 1 then 100 else if a = mN h then 8 else mT h a := fun a => by rw [e4, e3, e2, e1]; rfl
  have eL : ∀ a, mL h4 a = if a = mN h + 2 then 256 else if a = mN h + 1 then 256 else if a = mN h then 0 else mL h a := fun a => by rw [e4, e3, e2, e1]; rfl
  have eN : mN h4 = mN h + 3 := by rw [e4, e3, e2, e1]; rfl
  have eR : ∀ k, mR h4 (mN h) k = if k = 5 then some (mN h + 2) else if k = 4 then some (mN h + 1) else none := fun k => by
    have n2 : mN h2 = mN h + 2 := by rw [e2, e1]; rfl
    rw [e4, mR_SR, e3, mR_Al, n2, if_neg (show ¬ mN h = mN h + 2 by omega), e2, mR_SR, e1, mR_Al, mN_Al, if_neg (show ¬ mN h = mN h + 1 by omega), mR_Al, if_pos rfl]
    by_cases z5 : k = 5
    · rw [if_pos ⟨rfl, z5⟩, if_pos z5]
    · rw [if_neg (fun z => z5 z.2), if_neg z5]
      by_cases z4 : k = 4
      · rw [if_pos ⟨rfl, z4⟩, if_pos z4]
      · rw [if_neg (fun z => z4 z.2), if_neg z4]
  have eI : ∀ a k, mN h ≤ a → a < mN h + 3 → mI h4 a k = 0 := fun a k ha hb => by
    have n2 : mN h2 = mN h + 2 := by rw [e2, e1]; rfl
    rw [e4, mI_SR, e3, mI_Al, n2, e2, mI_SR, e1, mI_Al, mN_Al, mI_Al]
    by_cases z2 : a = mN h + 2
    · rw [if_pos z2]
    · rw [if_neg z2]
      by_cases z1 : a = mN h + 1
      · rw [if_pos z1]
      · rw [if_neg z1, if_pos (by omega)]
  have tags : ∀ a, mN h ≤ a → mT h4 a ≠ 0 → (a = mN h ∧ mT h4 a = 8) ∨ mT h4 a = 100 := fun a ha ht => by
    rw [eT] at ht ⊢
    by_cases z2 : a = mN h + 2
    · rw [if_pos z2]; exact Or.inr rfl
    · rw [if_neg z2] at ht ⊢
      by_cases z1 : a = mN h + 1
      · rw [if_pos z1]; exact Or.inr rfl
      · rw [if_neg z1] at ht ⊢
        by_cases z0 : a = mN h
        · rw [if_pos z0]; exact Or.inl ⟨z0, rfl⟩
        · rw [if_neg z0, tg0 a ha] at ht; exact absurd rfl ht
  have hsk : mSk h4 := by
    refine sk_gr hS g (fun a ha => ?_) (fun q hq a ha ht => ?_) (fun q hq a ha ht => ?_)
    · rw [eT, if_neg (by omega), if_neg (by omega), if_neg (by omega)]; exact tg0 a (by omega)
    · rcases tags a ha (by rw [ht]; exact (sk_nz.1 q hq).2) with ⟨z, t⟩ | t
      · rw [t] at ht
        have : q = (8, 1, 100, 256) ∨ q = (8, 2, 100, 256) := by revert q; decide
        subst z
        rcases this with e | e
        · subst e
          show mT h4 (mN h + 1) = 100 ∧ mL h4 (mN h + 1) = 256
          rw [eT, eL, if_neg (by omega), if_pos rfl, if_neg (by omega), if_pos rfl]; exact ⟨rfl, rfl⟩
        · subst e
          show mT h4 (mN h + 2) = 100 ∧ mL h4 (mN h + 2) = 256
          rw [eT, eL, if_pos rfl, if_pos rfl]; exact ⟨rfl, rfl⟩
      · rw [t] at ht
        exact absurd ht.symm (by revert q; decide)
    · rcases tags a ha (by rw [ht]; exact sk_nz.2 q hq) with ⟨z, t⟩ | t
      · rw [t] at ht
        have : q = (8, 4, 1) ∨ q = (8, 5, 2) := by revert q; decide
        subst z
        rcases this with e | e
        · subst e
          rw [eR, if_neg (by decide), if_pos rfl]
        · subst e
          rw [eR, if_pos rfl]
      · rw [t] at ht
        exact absurd ht.symm (by revert q; decide)
  refine K h4 g hsk ⟨fun a k ha ht => ?_, fun a r ha ht => ?_⟩ eN (by rw [eT, if_neg (by omega), if_neg (by omega), if_pos rfl])
  · rcases tags a ha (by rw [ht]; decide) with ⟨z, t⟩ | t <;> omega
  · rcases tags a ha (by rw [ht]; decide) with ⟨z, t⟩ | t
    · exact ⟨eI _ _ (by omega) (by omega), eI _ _ (by omega) (by omega)⟩
    · omega
theorem c1_init {h0 : mH} {v1 v2 : Int32} (hS : mSk h) (e0 : h0 = mAl h 2 0) (K : ∀ h', mGr h h' → mSk h' → nwX h h' → mN h' = mN h + 9 → mT h' (mN h) = 2 → mI h' (mN h) 0 = v1 → mI h' (mN h) 1 = v2 → (∀ k, 2 ≤ k → mI h' (mN h) k = 0) → (∀ j k, 1 ≤ j → j ≤ 8 → mI h' (mN h + j) k = 0) → Q none h') : mC G kX1_init (d + 1) (b1 + 8, b2 + 5748) [.inr (some (mN h)), .inl v1, .inl v2] h0 Q := by
  have tg0 : ∀ a, mN h ≤ a → mT h a = 0 := hS.2.2.1.2
  subst e0
  refine qX1_init (mN h) v1 v2 (by rw [mT_Al, if_pos rfl]) (by rw [mN_Al]; omega) (fun h1 e1 h2 e2 h3 e3 h4 e4 h5 e5 h6 e6 h7 e7 h8 e8 h9 e9 h10 e10 h11 e11 h12 e12 h13 e13 h14 e14 h15 e15 h16 e16 h17 e17 h18 e18 => ?_)
  have g : mGr h h18 := by
    rw [e18, e17, e16, e15, e14, e13, e12, e11, e10, e9, e8, e7, e6, e5, e4, e3, e2, e1]
    have le := Nat.le_refl (mN h)
    exact ((((((((((((((((((mGr.al 2 0).tr (mGr.al 100 32)).sr le).tr (mGr.al 100 32)).sr le).tr (mGr.al 100 4096)).sr le).tr (mGr.al 101 4)).sr le).tr (mGr.al 100 1536)).sr le).si le).si le).tr (mGr.al 100 16)).sr le).tr (mGr.al 100 16)).sr le).tr (mGr.al 100 16)).sr le
  have eT : ∀ a, mT h18 a = if a = mN h + 8 then 100 else if a = mN h + 7 then 100 else if a = mN h + 6 then 100 else if a = mN h + 5 then 100 else if a = mN h + 4 then 101 else if a = mN h + 3 then 100 else if a = mN h + 2 then 100 else if a = mN h + 1 then 100 else if a = mN h then 2 else mT h a := fun a => by rw [e18, e17, e16, e15, e14, e13, e12, e11, e10, e9, e8, e7, e6, e5, e4, e3, e2, e1]; rfl
  have eL : ∀ a, mL h18 a = if a = mN h + 8 then 16 else if a = mN h + 7 then 16 else if a = mN h + 6 then 16 else if a = mN h + 5 then 1536 else if a = mN h + 4 then 4 else if a = mN h + 3 then 4096 else if a = mN h + 2 then 32 else if a = mN h + 1 then 32 else if a = mN h then 0 else mL h a := fun a => by rw [e18, e17, e16, e15, e14, e13, e12, e11, e10, e9, e8, e7, e6, e5, e4, e3, e2, e1]; rfl
  have eN : mN h18 = mN h + 9 := by rw [e18, e17, e16, e15, e14, e13, e12, e11, e10, e9, e8, e7, e6, e5, e4, e3, e2, e1]; rfl
  have eR : mR h18 (mN h) 5 = some (mN h + 1) ∧ mR h18 (mN h) 6 = some (mN h + 2) ∧ mR h18 (mN h) 7 = some (mN h + 3) ∧ mR h18 (mN h) 8 = some (mN h + 4) ∧ mR h18 (mN h) 9 = some (mN h + 5) ∧ mR h18 (mN h) 2 = some (mN h + 6) ∧ mR h18 (mN h) 3 = some (mN h + 7) ∧ mR h18 (mN h) 4 = some (mN h + 8) := by
    rw [e18, e17, e16, e15, e14, e13, e12, e11, e10, e9, e8, e7, e6, e5, e4, e3, e2, e1]
    simp [mR_SR, mR_SI, mR_Al, mN_Al, mN_SR, mN_SI]
    omega
  have eI : ∀ a k, mN h ≤ a → a < mN h + 9 → mI h18 a k = if a = mN h ∧ k = 1 then v2 else if a = mN h ∧ k = 0 then v1 else 0 := fun a k ha hb => by
    have n2 : mN h2 = mN h + 2 := by rw [e2, e1]; rfl
    have n4 : mN h4 = mN h + 3 := by rw [e4, e3, e2, e1]; rfl
    have n6 : mN h6 = mN h + 4 := by rw [e6, e5, e4, e3, e2, e1]; rfl
    have n8 : mN h8 = mN h + 5 := by rw [e8, e7, e6, e5, e4, e3, e2, e1]; rfl
    have n12 : mN h12 = mN h + 6 := by rw [e12, e11, e10, e9, e8, e7, e6, e5, e4, e3, e2, e1]; rfl
    have n14 : mN h14 = mN h + 7 := by rw [e14, e13, e12, e11, e10, e9, e8, e7, e6, e5, e4, e3, e2, e1]; rfl
    have n16 : mN h16 = mN h + 8 := by rw [e16, e15, e14, e13, e12, e11, e10, e9, e8, e7, e6, e5, e4, e3, e2, e1]; rfl
    rw [e18, mI_SR, e17, mI_Al, n16, e16, mI_SR, e15, mI_Al, n14, e14, mI_SR, e13, mI_Al, n12, e12, mI_SI, e11, mI_SI, e10, mI_SR, e9, mI_Al, n8, e8, mI_SR, e7, mI_Al, n6, e6, mI_SR, e5, mI_Al, n4, e4, mI_SR, e3, mI_Al, n2, e2, mI_SR, e1, mI_Al, mN_Al, mI_Al]
    by_cases z8 : a = mN h + 8
    · rw [if_pos z8, if_neg (by omega), if_neg (by omega)]
    · rw [if_neg z8]
      by_cases z7 : a = mN h + 7
      · rw [if_pos z7, if_neg (by omega), if_neg (by omega)]
      · rw [if_neg z7]
        by_cases z6 : a = mN h + 6
        · rw [if_pos z6, if_neg (by omega), if_neg (by omega)]
        · rw [if_neg z6]
          by_cases y1 : a = mN h ∧ k = 1
          · rw [if_pos y1, if_pos y1]
          · rw [if_neg y1, if_neg y1]
            by_cases y0 : a = mN h ∧ k = 0
            · rw [if_pos y0, if_pos y0]
            · rw [if_neg y0, if_neg y0]
              by_cases z5 : a = mN h + 5
              · rw [if_pos z5]
              · rw [if_neg z5]
                by_cases z4 : a = mN h + 4
                · rw [if_pos z4]
                · rw [if_neg z4]
                  by_cases z3 : a = mN h + 3
                  · rw [if_pos z3]
                  · rw [if_neg z3]
                    by_cases z2 : a = mN h + 2
                    · rw [if_pos z2]
                    · rw [if_neg z2]
                      by_cases z1 : a = mN h + 1
                      · rw [if_pos z1]
                      · rw [if_neg z1, if_pos (by omega)]
  have tags : ∀ a, mN h ≤ a → mT h18 a ≠ 0 → (a = mN h ∧ mT h18 a = 2) ∨ mT h18 a = 100 ∨ mT h18 a = 101 := fun a ha ht => by
    by_cases z : a < mN h + 9
    · obtain ⟨j, hj⟩ : ∃ j, a = mN h + j := ⟨a - mN h, by omega⟩
      subst hj
      rw [eT]
      simp only [Nat.add_left_cancel_iff, Nat.add_eq_left]
      have : j < 9 := by omega
      rcases (show j = 0 ∨ j = 1 ∨ j = 2 ∨ j = 3 ∨ j = 4 ∨ j = 5 ∨ j = 6 ∨ j = 7 ∨ j = 8 by omega) with e | e | e | e | e | e | e | e | e <;> subst e <;> simp
    · rw [eT, if_neg (by omega), if_neg (by omega), if_neg (by omega), if_neg (by omega), if_neg (by omega), if_neg (by omega), if_neg (by omega), if_neg (by omega), if_neg (by omega), tg0 a ha] at ht
      exact absurd rfl ht
  have hsk : mSk h18 := by
    refine sk_gr hS g (fun a ha => ?_) (fun q hq a ha ht => ?_) (fun q hq a ha ht => ?_)
    · rw [eT, if_neg (by omega), if_neg (by omega), if_neg (by omega), if_neg (by omega), if_neg (by omega), if_neg (by omega), if_neg (by omega), if_neg (by omega), if_neg (by omega)]; exact tg0 a (by omega)
    · rcases tags a ha (by rw [ht]; exact (sk_nz.1 q hq).2) with ⟨z, t⟩ | t | t
      · rw [t] at ht
        have : q = (2, 6, 100, 16) ∨ q = (2, 7, 100, 16) ∨ q = (2, 8, 100, 16) ∨ q = (2, 1, 100, 32) ∨ q = (2, 2, 100, 32) ∨ q = (2, 3, 100, 4096) ∨ q = (2, 4, 101, 4) ∨ q = (2, 5, 100, 1536) := by revert q; decide
        subst z
        rw [eT, eL]
        rcases this with e | e | e | e | e | e | e | e <;> subst e <;> simp
      · rw [t] at ht
        exact absurd ht.symm (by revert q; decide)
      · rw [t] at ht
        exact absurd ht.symm (by revert q; decide)
    · rcases tags a ha (by rw [ht]; exact sk_nz.2 q hq) with ⟨z, t⟩ | t | t
      · rw [t] at ht
        have : q = (2, 2, 6) ∨ q = (2, 3, 7) ∨ q = (2, 4, 8) ∨ q = (2, 5, 1) ∨ q = (2, 6, 2) ∨ q = (2, 7, 3) ∨ q = (2, 8, 4) ∨ q = (2, 9, 5) := by revert q; decide
        subst z
        obtain ⟨r5, r6, r7, r8, r9, r2, r3, r4⟩ := eR
        rcases this with e | e | e | e | e | e | e | e <;> subst e
        · exact r2
        · exact r3
        · exact r4
        · exact r5
        · exact r6
        · exact r7
        · exact r8
        · exact r9
      · rw [t] at ht
        exact absurd ht.symm (by revert q; decide)
      · rw [t] at ht
        exact absurd ht.symm (by revert q; decide)
  refine K h18 g hsk ⟨fun a k ha ht => ?_, fun a r ha ht => ?_⟩ eN ?_ ?_ ?_ (fun k hk => ?_) (fun j k h1 h2 => ?_)
  · rcases tags a ha (by rw [ht]; decide) with ⟨z, t⟩ | t | t <;> omega
  · rcases tags a ha (by rw [ht]; decide) with ⟨z, t⟩ | t | t <;> omega
  · rw [eT, if_neg (by omega), if_neg (by omega), if_neg (by omega), if_neg (by omega), if_neg (by omega), if_neg (by omega), if_neg (by omega), if_neg (by omega), if_pos rfl]
  · rw [eI _ _ (by omega) (by omega), if_neg (by omega), if_pos ⟨rfl, rfl⟩]
  · rw [eI _ _ (by omega) (by omega), if_pos ⟨rfl, rfl⟩]
  · rw [eI _ _ (by omega) (by omega), if_neg (by omega), if_neg (by omega)]
  · rw [eI _ _ (by omega) (by omega), if_neg (by omega), if_neg (by omega)]
end
