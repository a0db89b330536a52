/-! LEVEL, both sides -/
abbrev aLw : Type := Nat × aCd × (Nat → Nat) × (Nat → Nat)
def lwN (L : aLw) : Nat := L.1
def lwA (L : aLw) : aCd := L.2.1
def lwS (L : aLw) : Nat → Nat := L.2.2.1
def lwC (L : aLw) : Nat → Nat := L.2.2.2
def okLw (L : aLw) : Prop := lwN L ≤ 12 ∧ ∀ q, q < lwN L → (∃ T, okC (lwA L) T (lwS L q) (lwC L q) 1) ∧ ∃ T, okC (lwA L) T (lwC L q) (lwS L (q + 1)) 100
def lwX (h : mH) (L : aLw) : Prop := ∃ l, (l = 16 ∨ l = 21) ∧ mR h 11 5 = some l ∧ mI h l 5 = nI (lwN L) ∧ (∀ q, q ≤ lwN L → mI h (l + 2) q = nI (lwS L q)) ∧ ∀ q, q < lwN L → mI h (l + 3) q = nI (lwC L q) ∧ cdX h l (lwA L) (lwS L (q + 1))
def lwM (h : mH) (L : aLw) : Prop := mI h 47 21 = nI (lwN L) ∧ ∀ q, q < lwN L → (mI h 64 q = nI (lwS L q) ∧ mI h 65 q = nI (lwC L q) ∧ mI h 66 q = nI (lwS L (q + 1))) ∧ cdM h (lwA L) (lwS L (q + 1))
def clp (x : Int32) : Int32 := if 0 ≤ x then (if x ≤ 99 then x else 99) else 0
theorem f_clp (x : Int32) : f_max 0 (f_min 99 x) = clp x := by
  unfold f_max f_min clp
  have e1 : ∀ a b : Int32, a < b ↔ a.toInt < b.toInt := fun a b => Int32.lt_iff_toInt_lt
  have e2 : ∀ a b : Int32, a ≤ b ↔ a.toInt ≤ b.toInt := fun a b => Int32.le_iff_toInt_le
  have z0 : (0 : Int32).toInt = 0 := by decide
  have z9 : (99 : Int32).toInt = 99 := by decide
  by_cases a : x < 99
  · rw [if_pos a]
    have a' := (e1 _ _).mp a
    by_cases c : 0 < x
    · have c' := (e1 _ _).mp c
      rw [if_pos c, if_pos ((e2 _ _).mpr (by omega)), if_pos ((e2 _ _).mpr (by omega))]
    · have c' : ¬ (0 : Int32).toInt < x.toInt := fun z => c ((e1 _ _).mpr z)
      rw [if_neg c]
      by_cases g : 0 ≤ x
      · have g' := (e2 _ _).mp g
        rw [if_pos g, if_pos ((e2 _ _).mpr (by omega))]
        exact (Int32.toInt_inj.mp (by omega))
      · rw [if_neg g]
  · rw [if_neg a]
    have a' : ¬ x.toInt < (99 : Int32).toInt := fun z => a ((e1 _ _).mpr z)
    rw [if_pos (by decide), if_pos ((e2 _ _).mpr (by omega))]
    by_cases g : x ≤ 99
    · have g' := (e2 _ _).mp g
      rw [if_pos g]
      exact (Int32.toInt_inj.mp (by omega))
    · rw [if_neg g]
theorem f_abs_n {a b : Nat} (ha : a < 1000) (hb : b < 1000) : f_abs (nI a - nI b) = nI (dst a b) ∧ f_X12_size (nI a - nI b) = nI (dst a b) := by
  have e : nI a - nI b = iI (a - b) := by rw [ii_nat, ii_nat, ii_sub]
  have e2 : (0 : Int32) ≤ iI (a - b) ↔ (0 : Int) ≤ a - b := by
    rw [show (0 : Int32) = iI 0 from rfl]; exact ii_le ⟨by omega, by omega⟩ ⟨by omega, by omega⟩
  unfold f_abs f_X12_size
  rw [e]
  by_cases h : (0 : Int) ≤ a - b
  · rw [if_pos (e2.mpr h), if_pos (e2.mpr h), ii_nat]
    have : (dst a b : Int) = a - b := by unfold dst; omega
    rw [this]; exact ⟨rfl, rfl⟩
  · rw [if_neg (fun z => h (e2.mp z)), if_neg (fun z => h (e2.mp z)), ii_nat, ii_neg, show (0 : Int32) = iI 0 from rfl, ii_sub]
    have h1 : (dst a b : Int) = -(a - b) := by unfold dst; omega
    rw [h1]
    exact ⟨by congr 1; omega, rfl⟩
def lvL (L : aLw) (F : Nat → Int32) : Nat → Nat → Int32
  | 0, _ => 0
  | r + 1, q => if ev0 (lwA L) F (lwC L q) (lwS L (q + 1)) = 1 then clp (ev0 (lwA L) F (lwS L q) (lwC L q)) else lvL L F r (q + 1)
/-- the sounders: place, kind, loudness -/
abbrev aSo : Type := Nat → Nat × Nat × Nat × Nat
def okSo1 (U : aSo) (i : Nat) : Prop := (U i).1 < 32 ∧ (U i).2.1 < 32 ∧ (U i).2.2.1 < 4 ∧ (U i).2.2.2 < 100
def soX (h : mH) (m : Nat) (U : aSo) : Prop := mI h 11 4 = nI m ∧ m ≤ 6 ∧ ∀ i, i < m → (mI h 12 i = nI (U i).1 ∧ mI h 13 i = nI (U i).2.1 ∧ mI h 14 i = nI (U i).2.2.1 ∧ mI h 15 i = nI (U i).2.2.2) ∧ okSo1 U i
def soM (h : mH) (m : Nat) (U : aSo) : Prop := mI h 47 6 = nI m ∧ m ≤ 6 ∧ ∀ i, i < m → (mI h 53 i = nI (U i).1 ∧ mI h 54 i = nI (U i).2.1 ∧ mI h 55 i = nI (U i).2.2.1 ∧ mI h 56 i = nI (U i).2.2.2) ∧ okSo1 U i
def fcF (U : aSo) (C : aCo) (s x y hr wi : Nat) : Nat → Int32 := fun j =>
  if j = 0 then nI (U s).2.2.2 else if j = 1 then nI (U s).2.2.1 else if j = 2 then nI s else if j = 3 then nI hr else if j = 4 then nI wi
  else if j = 5 then nI (dst (U s).1 x + dst (U s).2.1 y) else if j = 6 then nI (U s).2.1 - nI y else if j = 7 then nI (U s).1 - nI x else nI (lbC C x y (U s).1 (U s).2.1)
def lvA (L : aLw) (U : aSo) (C : aCo) (s x y hr wi : Nat) : Int32 := lvL L (fcF U C s x y hr wi) (lwN L) 0
def aEar : Nat → Nat → Prop := fun a k => (a = 26 ∧ 5 ≤ k) ∨ a = 20 ∨ a = 25 ∨ ((a = 16 ∨ a = 21) ∧ (k = 6 ∨ k = 7))
def aLis : Nat → Nat → Prop := fun a k => a = 26 ∧ k < 5
def aLvM : Nat → Nat → Prop := fun a _ => a = 67 ∨ a = 68
theorem lwX.fr {A : Nat → Nat → Prop} {h h' : mH} {L : aLw} (f : mFr2 A h h') (hA : ∀ a k, (a = 17 ∨ a = 18 ∨ a = 19 ∨ a = 22 ∨ a = 23 ∨ a = 24 ∨ ((a = 16 ∨ a = 21) ∧ k = 5)) → ¬ A a k) (hl : lwX h L) : lwX h' L := by
  obtain ⟨l, h1, h2, h3, h4, h5⟩ := hl
  refine ⟨l, h1, by rw [f.1.2.2.2]; exact h2, by rw [f.2 _ _ (hA _ _ (by omega))]; exact h3, fun q hq => by rw [f.2 _ _ (hA _ _ (by omega))]; exact h4 q hq, fun q hq => ⟨by rw [f.2 _ _ (hA _ _ (by omega))]; exact (h5 q hq).1, fun p hp => by rw [f.2 _ _ (hA _ _ (by omega))]; exact (h5 q hq).2 p hp⟩⟩
theorem lwM.fr {A : Nat → Nat → Prop} {h h' : mH} {L : aLw} (f : mFr2 A h h') (hA : ∀ a k, (a = 63 ∨ a = 64 ∨ a = 65 ∨ a = 66 ∨ (a = 47 ∧ k = 21)) → ¬ A a k) (hl : lwM h L) : lwM h' L := by
  obtain ⟨h1, h2⟩ := hl
  refine ⟨by rw [f.2 _ _ (hA _ _ (by omega))]; exact h1, fun q hq => ⟨?_, fun p hp => by rw [f.2 _ _ (hA _ _ (by omega))]; exact (h2 q hq).2 p hp⟩⟩
  rw [f.2 _ _ (hA 64 _ (by omega)), f.2 _ _ (hA 65 _ (by omega)), f.2 _ _ (hA 66 _ (by omega))]
  exact (h2 q hq).1
theorem v9 (n : Nat) (h : n < 9) : vp_in (nI n) 9 := vp_in_nI h (by omega)
section
variable {G : mG} {d : Nat} {b : Nat × Nat} {h : mH} {Q : Option mV → mH → Prop}
theorem c2_listen {s hr wi m x y : Nat} {U : aSo} {C : aCo} (hS : mSk h) (hU : soX h m U) (hs : s < m) (K : ∀ h', mFr2 aLis h h' → (∀ j, j < 5 → mI h' 26 j = fcF U C s x y hr wi j) → Q none h') : mC G kX2_listen (d + 1) b [.inr (some 11), .inl (nI s), .inl (nI hr), .inl (nI wi)] h Q := by
  have h6 := hU.2.1
  obtain ⟨⟨u1, u2, u3, u4⟩, -⟩ := hU.2.2 s hs
  refine qX2_listen _ _ _ hS (c2_hasSounder _ hS hU.1 h6 (fun z => absurd (by rw [nI_toI (by omega)]; omega) z) (fun c hc e => ⟨_, rfl, hS, fun z => absurd z (by decide), fun _ => ?_⟩))
  rw [nI_clamp (by omega)]
  have vs : vp_in (nI s) 6 := vp_in_nI (by omega) (by omega)
  refine ⟨vs, v9 0 (by omega), fun h5 e5 => ⟨vs, v9 1 (by omega), fun h8 e8 => ⟨v9 2 (by omega), fun h10 e10 => ⟨v9 3 (by omega), fun h12 e12 => ⟨v9 4 (by omega), fun h14 e14 => ?_⟩⟩⟩⟩⟩
  have f : mFr2 aLis h h14 := by
    rw [e14, e12, e10, e8, e5]
    exact ((((mFr2.SI ⟨rfl, by omega⟩).tr (mFr2.SI ⟨rfl, by omega⟩)).tr (mFr2.SI ⟨rfl, by omega⟩)).tr (mFr2.SI ⟨rfl, by omega⟩)).tr (mFr2.SI ⟨rfl, by omega⟩)
  refine K h14 f (fun j hj => ?_)
  have g : mI h5 14 s = mI h 14 s := by rw [e5, mI_SI_a (by decide)]
  rw [e14, e12, e10, e8, g, e5, u3, u4]
  unfold fcF
  rcases (show j = 0 ∨ j = 1 ∨ j = 2 ∨ j = 3 ∨ j = 4 by omega) with rfl | rfl | rfl | rfl | rfl
  · rw [mI_SI_k (by decide), mI_SI_k (by decide), mI_SI_k (by decide), mI_SI_k (by decide), mI_SI_s]; rfl
  · rw [mI_SI_k (by decide), mI_SI_k (by decide), mI_SI_k (by decide), mI_SI_s]; rfl
  · rw [mI_SI_k (by decide), mI_SI_k (by decide), mI_SI_s]; rfl
  · rw [mI_SI_k (by decide), mI_SI_s]; rfl
  · rw [mI_SI_s]; rfl
set_option maxHeartbeats 2000000 in
theorem c2_loudnessAt {a s x y hr wi m : Nat} {U : aSo} {C : aCo} {L : aLw} (hS : mSk h) (ta : mT h a = 2) (ha : 93 ≤ a) (hL : cLa h a C) (hU : soX h m U) (hs : s < m) (lw : lwX h L) (ok : okLw L) (hx : x < 32) (hy : y < 32) (hj : ∀ j, j < 5 → mI h 26 j = fcF U C s x y hr wi j)
    (K : ∀ h', mFr2 aEar h h' → Q (some (.inl (lvA L U C s x y hr wi))) h') : mC G kX2_loudnessAt (d + 2) b [.inr (some 11), .inr (some a), .inl (nI x), .inl (nI y)] h Q := by
  have h6 := hU.2.1
  obtain ⟨⟨u1, u2, u3, u4⟩, o1, o2, o3, o4⟩ := hU.2.2 s hs
  have e2 : mI h 26 2 = nI s := hj 2 (by omega)
  have vs : vp_in (nI s) 6 := vp_in_nI (by omega) (by omega)
  refine qX2_loudnessAt a _ _ ta hS ?_
  rw [e2, nI_clamp (by omega), u1, u2, (f_abs_n (by omega) (by omega)).1, (f_abs_n (by omega) (by omega)).1, nI_add]
  refine ⟨v9 2 (by omega), vs, v9 2 (by omega), vs, v9 5 (by omega), fun h6 e6 => ⟨v9 6 (by omega), fun h8 e8 => ⟨v9 7 (by omega), fun h10 e10 => ?_⟩⟩⟩
  have f10 : mFr2 aEar h h10 := by
    rw [e10, e8, e6]
    exact ((mFr2.SI (Or.inl ⟨rfl, by omega⟩)).tr (mFr2.SI (Or.inl ⟨rfl, by omega⟩))).tr (mFr2.SI (Or.inl ⟨rfl, by omega⟩))
  have hS10 := f10.1.sk hS
  have hL10 : cLa h10 a C := f10.cla (fun k z => by unfold aEar at z; omega) (fun k z => by unfold aEar at z; omega) hL
  have ta10 : mT h10 a = 2 := by rw [f10.1.2.1]; exact ta
  refine c1_landBetween hS10 ta10 hL10 hx hy o1 o2 ⟨_, rfl, hS10, ta10, v9 8 (by omega), fun h14 e14 => ?_⟩
  have f14 : mFr2 aEar h h14 := by
    rw [e14]; exact f10.tr (mFr2.SI (Or.inl ⟨rfl, by omega⟩))
  have hF : ∀ j, j < 9 → mI h14 26 j = fcF U C s x y hr wi j := by
    intro j hj9
    by_cases j5 : j < 5
    · rw [f14.2 _ _ (fun z => by unfold aEar at z; omega)]; exact hj j j5
    · rw [e14, e10, e8, e6]
      rcases (show j = 5 ∨ j = 6 ∨ j = 7 ∨ j = 8 by omega) with rfl | rfl | rfl | rfl
      · rw [mI_SI_k (by decide), mI_SI_k (by decide), mI_SI_k (by decide), mI_SI_s]; rfl
      · rw [mI_SI_k (by decide), mI_SI_k (by decide), mI_SI_s]; rfl
      · rw [mI_SI_k (by decide), mI_SI_s]; rfl
      · rw [mI_SI_s]; rfl
  have lp : ∀ (r q : Nat) (h1 : mH), q + r = lwN L → mFr2 aEar h h1 → (∀ j, j < 9 → mI h1 26 j = fcF U C s x y hr wi j) → (∀ h', mFr2 aEar h h' → Q (some (.inl (lvL L (fcF U C s x y hr wi) r q))) h') → mW G kX2_loudnessAt (d + 2) b 89 [some (.inr (some 11)), none, none, none, none, none, some (.inl (nI q)), none] [] h1 Q := by
    intro r
    have h12 := ok.1
    induction r with
    | zero =>
      intro q h1 hq f1 F1 K1
      have hS1 := f1.1.sk hS
      obtain ⟨l, hl, hr5, c5, -, -⟩ := lwX.fr f1 (fun a k z => by unfold aEar; omega) lw
      have tl : mT h1 l = 4 := by rcases hl with rfl | rfl; exact skT_16 hS1; exact skT_21 hS1
      refine qX2_loudnessAt_89 _ hS1 ⟨l, hr5, tl, fun _ => K1 h1 f1, fun z => absurd ?_ z⟩
      rw [c5]; exact nI_le (by omega) (by omega)
    | succ r ih =>
      intro q h1 hq f1 F1 K1
      have hS1 := f1.1.sk hS
      have lw1 := lwX.fr f1 (fun a k z => by unfold aEar; omega) lw
      obtain ⟨l, hl, hr5, c5, cS, cC⟩ := lw1
      have tl : mT h1 l = 4 := by rcases hl with rfl | rfl; exact skT_16 hS1; exact skT_21 hS1
      obtain ⟨cC1, cd⟩ := cC q (by omega)
      obtain ⟨⟨T1, ok1⟩, T2, ok2⟩ := ok.2 q (by omega)
      have v12 : vp_in (nI q) 12 := vp_in_nI (by omega) (by omega)
      have v13 : vp_in (nI (q + 1)) 13 := vp_in_nI (by omega) (by omega)
      have v13' : vp_in (nI q) 13 := vp_in_nI (by omega) (by omega)
      have aRE : ∀ x k, aRun l x k → aEar x k := by
        intro x k z
        unfold aRun at z
        unfold aEar
        omega
      unfold lvL at K1
      refine qX2_loudnessAt_89 _ hS1 ⟨l, hr5, tl, fun z => absurd z (by rw [c5]; exact nI_ge (by omega) (by omega)), fun _ => ⟨l, hr5, tl, v12, l, hr5, tl, by rw [nI_1]; exact v13, ?_⟩⟩
      rw [nI_1, nI_clamp (show q < 2 ^ 31 by omega), nI_clamp (show q + 1 < 2 ^ 31 by omega), cC1, cS (q + 1) (by omega)]
      refine c3_run hl hS1 cd F1 ok2 (Or.inr rfl) (fun h2 x2 f2 r2 => ?_)
      have f2' : mFr2 aEar h1 h2 := f2.wk aRE
      have f12 := f1.tr f2'
      have hS2 := f12.1.sk hS
      have tl2 : mT h2 l = 4 := by rw [f2.1.2.1]; exact tl
      have hr2 : mR h2 11 5 = some l := by rw [f2.1.2.2.2]; exact hr5
      have F2 : ∀ j, j < 9 → mI h2 26 j = fcF U C s x y hr wi j := fun j hj9 => by rw [f2.2 _ _ (fun z => by unfold aRun at z; omega)]; exact F1 j hj9
      have r3 := r2.2 rfl
      refine ⟨_, rfl, hS2, tl2, tl2, tl2, l, hr2, tl2, fun z => ?_, fun z => ⟨l, hr2, tl2, fun z2 => ?_, fun z2 => ⟨l, hr2, tl2, v13', l, hr2, tl2, v12, ?_⟩⟩⟩
      · rw [if_neg (fun e => (r3.mpr e).1 z)] at K1
        exact ih (q + 1) h2 (by omega) f12 F2 K1
      · rw [if_neg (fun e => z2 (r3.mpr e).2)] at K1
        exact ih (q + 1) h2 (by omega) f12 F2 K1
      · rw [if_pos (r3.mp ⟨z, z2⟩)] at K1
        have cS2 : mI h2 (l + 2) q = nI (lwS L q) := by rw [f2.2 _ _ (fun z => by unfold aRun at z; omega)]; exact cS q (by omega)
        have cC2 : mI h2 (l + 3) q = nI (lwC L q) := by rw [f2.2 _ _ (fun z => by unfold aRun at z; omega)]; exact cC1
        have hle := ok2.2.2.1
        have cd2 : cdX h2 l (lwA L) (lwC L q) := fun p hp => by rw [f2.2 _ _ (fun z => by unfold aRun at z; omega)]; exact cd p (by omega)
        rw [cS2, cC2]
        refine c3_run hl hS2 cd2 F2 ok1 (Or.inl rfl) (fun h3 x3 f3 r4 => ⟨_, rfl, (f3.1.sk hS2), ?_, ?_, ?_, ?_, ?_, ?_, ?_, ?_⟩)
        · rw [f3.1.2.1]; exact tl2
        · rw [f3.1.2.1]; exact tl2
        · rw [f3.1.2.1]; exact tl2
        · rw [f3.1.2.1]; exact tl2
        · rw [f3.1.2.1]; exact tl2
        · rw [f3.1.2.1]; exact tl2
        · rw [f3.1.2.1]; exact tl2
        · rw [f_clp, r4.1 rfl]
          exact K1 h3 (f12.tr (f3.wk aRE))
  exact lp (lwN L) 0 h14 (by omega) f14 hF K
set_option maxHeartbeats 2000000 in
theorem m_levelOf {c s x y hr wi m : Nat} {U : aSo} {C : aCo} {L : aLw} (hS : mSk h) (hc : c < 8) (hL : mLa h c C) (hU : soM h m U) (hs : s < m) (lw : lwM h L) (ok : okLw L) (hx : x < 32) (hy : y < 32)
    (K : ∀ h', mFr2 aLvM h h' → Q (some (.inl (lvA L U C s x y hr wi))) h') : mC G kX12_levelOf (d + 2) b [.inr (some 47), .inl (nI c), .inl (nI s), .inl (nI x), .inl (nI y), .inl (nI hr), .inl (nI wi)] h Q := by
  have h6 := hU.2.1
  obtain ⟨⟨u1, u2, u3, u4⟩, o1, o2, o3, o4⟩ := hU.2.2 s hs
  have vs : vp_in (nI s) 6 := vp_in_nI (by omega) (by omega)
  refine qX12_levelOf _ _ _ _ _ _ hS ?_
  rw [nI_clamp (by omega)]
  refine ⟨vs, v9 0 (by omega), fun h3 e3 => ⟨vs, v9 1 (by omega), fun h6 e6 => ⟨v9 2 (by omega), fun h8 e8 => ⟨v9 3 (by omega), fun h10 e10 => ⟨v9 4 (by omega), fun h12 e12 => ⟨vs, vs, v9 5 (by omega), fun h16 e16 => ⟨vs, v9 6 (by omega), fun h19 e19 => ⟨vs, v9 7 (by omega), fun h22 e22 => ⟨vs, vs, ?_⟩⟩⟩⟩⟩⟩⟩⟩⟩
  have f3 : mFr2 aLvM h h3 := by rw [e3]; exact mFr2.SI (Or.inr rfl)
  have f6 : mFr2 aLvM h h6 := by rw [e6]; exact f3.tr (mFr2.SI (Or.inr rfl))
  have f8 : mFr2 aLvM h h8 := by rw [e8]; exact f6.tr (mFr2.SI (Or.inr rfl))
  have f10 : mFr2 aLvM h h10 := by rw [e10]; exact f8.tr (mFr2.SI (Or.inr rfl))
  have f12 : mFr2 aLvM h h12 := by rw [e12]; exact f10.tr (mFr2.SI (Or.inr rfl))
  have f16 : mFr2 aLvM h h16 := by rw [e16]; exact f12.tr (mFr2.SI (Or.inr rfl))
  have f19 : mFr2 aLvM h h19 := by rw [e19]; exact f16.tr (mFr2.SI (Or.inr rfl))
  have f22 : mFr2 aLvM h h22 := by rw [e22]; exact f19.tr (mFr2.SI (Or.inr rfl))
  have n55 : ∀ a k, a ≠ 67 → a ≠ 68 → ¬ aLvM a k := fun a k z1 z2 z => by unfold aLvM at z; omega
  rw [f3.2 55 s (n55 _ _ (by omega) (by omega)), u3] at e6
  rw [u4] at e3
  rw [f12.2 53 s (n55 _ _ (by omega) (by omega)), f12.2 54 s (n55 _ _ (by omega) (by omega)), u1, u2, (f_abs_n (by omega) (by omega)).2, (f_abs_n (by omega) (by omega)).2, nI_add] at e16
  rw [f16.2 54 s (n55 _ _ (by omega) (by omega)), u2] at e19
  rw [f19.2 53 s (n55 _ _ (by omega) (by omega)), u1] at e22
  rw [f22.2 53 s (n55 _ _ (by omega) (by omega)), f22.2 54 s (n55 _ _ (by omega) (by omega)), u1, u2]
  have hS22 := f22.1.sk hS
  have hL22 : mLa h22 c C := fun k hk => by rw [f22.2 52 _ (n55 _ _ (by omega) (by omega))]; exact hL k hk
  refine m_landOnWay hS22 hc hx hy o1 o2 hL22 ⟨_, rfl, hS22, v9 8 (by omega), fun h28 e28 => ?_⟩
  have f28 : mFr2 aLvM h h28 := by rw [e28]; exact f22.tr (mFr2.SI (Or.inr rfl))
  have hF : ∀ j, j < 9 → mI h28 68 j = fcF U C s x y hr wi j := by
    intro j hj9
    rw [e28, e22, e19, e16, e12, e10, e8, e6, e3]
    rcases (show j = 0 ∨ j = 1 ∨ j = 2 ∨ j = 3 ∨ j = 4 ∨ j = 5 ∨ j = 6 ∨ j = 7 ∨ j = 8 by omega) with rfl | rfl | rfl | rfl | rfl | rfl | rfl | rfl | rfl
    · rw [mI_SI_k (by decide), mI_SI_k (by decide), mI_SI_k (by decide), mI_SI_k (by decide), mI_SI_k (by decide), mI_SI_k (by decide), mI_SI_k (by decide), mI_SI_k (by decide), mI_SI_s]; rfl
    · rw [mI_SI_k (by decide), mI_SI_k (by decide), mI_SI_k (by decide), mI_SI_k (by decide), mI_SI_k (by decide), mI_SI_k (by decide), mI_SI_k (by decide), mI_SI_s]; rfl
    · rw [mI_SI_k (by decide), mI_SI_k (by decide), mI_SI_k (by decide), mI_SI_k (by decide), mI_SI_k (by decide), mI_SI_k (by decide), mI_SI_s]; rfl
    · rw [mI_SI_k (by decide), mI_SI_k (by decide), mI_SI_k (by decide), mI_SI_k (by decide), mI_SI_k (by decide), mI_SI_s]; rfl
    · rw [mI_SI_k (by decide), mI_SI_k (by decide), mI_SI_k (by decide), mI_SI_k (by decide), mI_SI_s]; rfl
    · rw [mI_SI_k (by decide), mI_SI_k (by decide), mI_SI_k (by decide), mI_SI_s]; rfl
    · rw [mI_SI_k (by decide), mI_SI_k (by decide), mI_SI_s]; rfl
    · rw [mI_SI_k (by decide), mI_SI_s]; rfl
    · rw [mI_SI_s]; rfl
  have lp : ∀ (r q : Nat) (h1 : mH), q + r = lwN L → mFr2 aLvM h h1 → (∀ j, j < 9 → mI h1 68 j = fcF U C s x y hr wi j) → (∀ h', mFr2 aLvM h h' → Q (some (.inl (lvL L (fcF U C s x y hr wi) r q))) h') → mW G kX12_levelOf (d + 2) b 138 [some (.inr (some 47)), none, none, none, none, none, none, some (.inl (nI q)), none] [] h1 Q := by
    intro r
    have h12 := ok.1
    induction r with
    | zero =>
      intro q h1 hq f1 F1 K1
      have hS1 := f1.1.sk hS
      obtain ⟨c5, -⟩ := lwM.fr f1 (fun a k z => by unfold aLvM; omega) lw
      refine qX12_levelOf_138 _ hS1 ⟨fun _ => K1 h1 f1, fun z => absurd ?_ z⟩
      rw [c5]; exact nI_le (by omega) (by omega)
    | succ r ih =>
      intro q h1 hq f1 F1 K1
      have hS1 := f1.1.sk hS
      obtain ⟨c5, cc⟩ := lwM.fr f1 (fun a k z => by unfold aLvM; omega) lw
      obtain ⟨⟨c64, c65, c66⟩, cd⟩ := cc q (by omega)
      obtain ⟨⟨T1, ok1⟩, T2, ok2⟩ := ok.2 q (by omega)
      have v12 : vp_in (nI q) 12 := vp_in_nI (by omega) (by omega)
      unfold lvL at K1
      refine qX12_levelOf_138 _ hS1 ⟨fun z => absurd z (by rw [c5]; exact nI_ge (by omega) (by omega)), fun _ => ⟨v12, v12, ?_⟩⟩
      rw [nI_clamp (show q < 2 ^ 31 by omega), c65, c66]
      refine m_comesTo hS1 cd F1 ok2 (Or.inr rfl) (fun h2 f2 => ?_)
      have f2' : mFr2 aLvM h1 h2 := f2.wk (fun x k z => Or.inl z)
      have f12 := f1.tr f2'
      have hS2 := f12.1.sk hS
      have F2 : ∀ j, j < 9 → mI h2 68 j = fcF U C s x y hr wi j := fun j hj9 => by rw [f2.2 _ _ (fun z => by unfold a67 at z; omega)]; exact F1 j hj9
      refine ⟨_, rfl, hS2, fun z => ⟨v12, v12, ?_⟩, fun z => ?_⟩
      · rw [if_pos z] at K1
        have hle := ok2.2.2.1
        rw [f2.2 64 _ (fun z => by unfold a67 at z; omega), f2.2 65 _ (fun z => by unfold a67 at z; omega), c64, c65]
        have cd2 : cdM h2 (lwA L) (lwC L q) := fun p hp => by rw [f2.2 _ _ (fun z => by unfold a67 at z; omega)]; exact cd p (by omega)
        refine m_comesTo hS2 cd2 F2 ok1 (Or.inl rfl) (fun h3 f3 => ⟨_, rfl, f3.1.sk hS2, fun w ew => ?_⟩)
        rw [ew]
        exact K1 h3 (f12.tr (f3.wk (fun x k z => Or.inl z)))
      · rw [if_neg z] at K1
        rw [nI_1]
        exact ih (q + 1) h2 (by omega) f12 F2 K1
  exact lp (lwN L) 0 h28 (by omega) f28 hF K
end
