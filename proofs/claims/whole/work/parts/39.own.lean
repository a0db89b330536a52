/-! THE LOG: lines and notes; what a line's own notes cost at a cell (model) -/
abbrev aNt : Type := Bool × Nat × Nat × Nat
abbrev aLi : Type := (Int × Int) × (Nat × Nat × Nat) × Nat × (Nat → aNt)
def jX (l : aLi) : Int := l.1.1
def jY (l : aLi) : Int := l.1.2
def jD (l : aLi) : Nat := l.2.1.1
def jH (l : aLi) : Nat := l.2.1.2.1
def jW (l : aLi) : Nat := l.2.1.2.2
def jN (l : aLi) : Nat := l.2.2.1
def jT (l : aLi) : Nat → aNt := l.2.2.2
def okNt (m : Nat) (t : aNt) : Prop := (t.1 = true → t.2.1 < 4 ∧ t.2.2.1 ≤ 64 ∧ t.2.2.2 = 0) ∧ (t.1 = false → t.2.1 < m ∧ t.2.2.1 < 100 ∧ t.2.2.2 < 100)
def okLi (m : Nat) (l : aLi) : Prop := (-9 ≤ jX l ∧ jX l ≤ 9) ∧ (-9 ≤ jY l ∧ jY l ≤ 9) ∧ jD l ≤ 3 ∧ jH l < 24 ∧ jW l < 4 ∧ jN l ≤ 6 ∧ ∀ k, k < jN l → okNt m (jT l k)
def ntM (h : mH) (at0 : Nat) (t : aNt) : Prop := mI h 75 at0 = (if t.1 then iI (t.2.1 - 10) else nI t.2.1) ∧ mI h 76 at0 = nI t.2.2.1 ∧ mI h 77 at0 = nI t.2.2.2
def liM (h : mH) (i : Nat) (l : aLi) : Prop := mI h 69 i = iI (jX l) ∧ mI h 70 i = iI (jY l) ∧ mI h 71 i = nI (jD l) ∧ mI h 72 i = nI (jH l) ∧ mI h 73 i = nI (jW l) ∧ mI h 74 i = nI (jN l) ∧ ∀ k, k < jN l → ntM h (6 * i + k) (jT l k)
def lgM (h : mH) (m n : Nat) (J : Nat → aLi) : Prop := mI h 47 33 = nI n ∧ n ≤ 12 ∧ ∀ i, i < n → liM h i (J i) ∧ okLi m (J i)
theorem clp_ex (x : Int32) : ∃ v, v < 100 ∧ clp x = nI v := by
  unfold clp
  by_cases h0 : 0 ≤ x
  · rw [if_pos h0]
    by_cases h9 : x ≤ 99
    · rw [if_pos h9]
      have a := Int32.le_iff_toInt_le.mp h0
      have c := Int32.le_iff_toInt_le.mp h9
      rw [show (0 : Int32).toInt = 0 by decide] at a
      rw [show (99 : Int32).toInt = 99 by decide] at c
      exact nI_ex (n := 100) a (by omega) (by omega)
    · rw [if_neg h9]; exact ⟨99, by omega, rfl⟩
  · rw [if_neg h0]; exact ⟨0, by omega, rfl⟩
theorem lvL_ex (L : aLw) (F : Nat → Int32) : ∀ r q, ∃ v, v < 100 ∧ lvL L F r q = nI v
  | 0, _ => ⟨0, by omega, rfl⟩
  | r + 1, q => by
    unfold lvL
    split
    · exact clp_ex _
    · exact lvL_ex L F r (q + 1)
def lvN (L : aLw) (U : aSo) (C : aCo) (s x y hr wi : Nat) : Nat := (lvA L U C s x y hr wi).toNatClampNeg
theorem lvN_eq (L : aLw) (U : aSo) (C : aCo) (s x y hr wi : Nat) : lvN L U C s x y hr wi < 100 ∧ lvA L U C s x y hr wi = nI (lvN L U C s x y hr wi) := by
  obtain ⟨v, h1, h2⟩ := lvL_ex L (fcF U C s x y hr wi) (lwN L) 0
  have h3 : lvA L U C s x y hr wi = nI v := h2
  have h4 : lvN L U C s x y hr wi = v := by unfold lvN; rw [h3, nI_clamp (by omega)]
  rw [h4]; exact ⟨h1, h3⟩
/-- whether a note holds at a cell -/
def hdB (L : aLw) (U : aSo) (C : aCo) (l : aLi) (t : aNt) (x y : Nat) : Bool :=
  if t.1 then (if t.2.2.1 = 0 then siC C t.2.1 x y else decide (ecC C t.2.1 x y = t.2.2.1)) else decide (dst (lvN L U C t.2.1 x y (jH l) (jW l)) t.2.2.1 ≤ t.2.2.2)
def FARn : Nat := 1000000000
def wrC (L : aLw) (U : aSo) (C : aCo) (l : aLi) (x y j : Nat) : Nat := cnt (fun k => !hdB L U C l (jT l k) x y) j
def owC (L : aLw) (U : aSo) (C : aCo) (l : aLi) (x y : Nat) : Nat := if coLand C x y then FARn else wrC L U C l x y (jN l)
def owK (L : aLw) (U : aSo) (C : aCo) (l : aLi) (k : Nat) : Nat := owC L U C l (k % 32) (k / 32)
theorem cnt_le (p : Nat → Bool) : ∀ n, cnt p n ≤ n
  | 0 => Nat.le_refl _
  | n + 1 => by have := cnt_le p n; rw [cnt]; split <;> omega
theorem liM.fr {A : Nat → Nat → Prop} {h h' : mH} {i : Nat} {l : aLi} (f : mFr2 A h h') (hA : ∀ a k, 69 ≤ a → a ≤ 77 → ¬ A a k) (hl : liM h i l) : liM h' i l := by
  obtain ⟨h1, h2, h3, h4, h5, h6, h7⟩ := hl
  refine ⟨by rw [f.2 _ _ (hA _ _ (by omega) (by omega))]; exact h1, by rw [f.2 _ _ (hA _ _ (by omega) (by omega))]; exact h2, by rw [f.2 _ _ (hA _ _ (by omega) (by omega))]; exact h3, by rw [f.2 _ _ (hA _ _ (by omega) (by omega))]; exact h4, by rw [f.2 _ _ (hA _ _ (by omega) (by omega))]; exact h5, by rw [f.2 _ _ (hA _ _ (by omega) (by omega))]; exact h6, fun k hk => ?_⟩
  obtain ⟨g1, g2, g3⟩ := h7 k hk
  exact ⟨by rw [f.2 _ _ (hA _ _ (by omega) (by omega))]; exact g1, by rw [f.2 _ _ (hA _ _ (by omega) (by omega))]; exact g2, by rw [f.2 _ _ (hA _ _ (by omega) (by omega))]; exact g3⟩
theorem lgM.fr {A : Nat → Nat → Prop} {h h' : mH} {m n : Nat} {J : Nat → aLi} (f : mFr2 A h h') (hA : ∀ a k, 69 ≤ a → a ≤ 77 → ¬ A a k) (hB : ¬ A 47 33) (hl : lgM h m n J) : lgM h' m n J :=
  ⟨by rw [f.2 _ _ hB]; exact hl.1, hl.2.1, fun i hi => ⟨liM.fr f hA (hl.2.2 i hi).1, (hl.2.2 i hi).2⟩⟩
theorem soM.fr {A : Nat → Nat → Prop} {h h' : mH} {m : Nat} {U : aSo} (f : mFr2 A h h') (hA : ∀ a k, 53 ≤ a → a ≤ 56 → ¬ A a k) (hB : ¬ A 47 6) (hU : soM h m U) : soM h' m U :=
  ⟨by rw [f.2 _ _ hB]; exact hU.1, hU.2.1, fun i hi => ⟨by
    rw [f.2 53 _ (hA _ _ (by omega) (by omega)), f.2 54 _ (hA _ _ (by omega) (by omega)), f.2 55 _ (hA _ _ (by omega) (by omega)), f.2 56 _ (hA _ _ (by omega) (by omega))]
    exact (hU.2.2 i hi).1, (hU.2.2 i hi).2⟩⟩
theorem mCoM.fr {A : Nat → Nat → Prop} {h h' : mH} {c : Nat} {C : aCo} (f : mFr2 A h h') (hA : ∀ a k, 48 ≤ a → a ≤ 51 → ¬ A a k) (hC : mCoM h c C) : mCoM h' c C :=
  ⟨by rw [f.2 _ _ (hA _ _ (by omega) (by omega))]; exact hC.1, fun i hi => by
    rw [f.2 49 _ (hA _ _ (by omega) (by omega)), f.2 50 _ (hA _ _ (by omega) (by omega)), f.2 51 _ (hA _ _ (by omega) (by omega))]; exact hC.2 i hi⟩
theorem mLa.fr {A : Nat → Nat → Prop} {h h' : mH} {c : Nat} {C : aCo} (f : mFr2 A h h') (hA : ∀ k, ¬ A 52 k) (hL : mLa h c C) : mLa h' c C := fun k hk => by rw [f.2 _ _ (hA _)]; exact hL k hk
theorem mCh.fr {A : Nat → Nat → Prop} {h h' : mH} {n : Nat} {Cs : Nat → aCo} (f : mFr2 A h h') (hA : ∀ a k, 48 ≤ a → a ≤ 52 → ¬ A a k) (hB : ¬ A 47 0) (hC : mCh h n Cs) : mCh h' n Cs :=
  ⟨by rw [f.2 _ _ hB]; exact hC.1, hC.2.1, fun c hc => ⟨mCoM.fr f (fun a k z1 z2 => hA a k z1 (by omega)) (hC.2.2 c hc).1, (hC.2.2 c hc).2.1, mLa.fr f (fun k => hA 52 k (by omega) (by omega)) (hC.2.2 c hc).2.2⟩⟩
theorem L1e9 : (1000000000 : Int32) = nI 1000000000 := rfl
section
variable {G : mG} {d : Nat} {b : Nat × Nat} {h : mH} {Q : Option mV → mH → Prop}
set_option maxHeartbeats 1000000 in
theorem m_holds {c k i j m : Nat} {C : aCo} {U : aSo} {L : aLw} {l : aLi} (hS : mSk h) (hc : c < 8) (hk : k < 1024) (hi : i < 12) (hj : j < jN l) (hC : mCoM h c C) (okr : okRing C) (hL : mLa h c C) (hw : coLand C (k % 32) (k / 32) = false) (hU : soM h m U) (lw : lwM h L) (ok : okLw L) (hl : liM h i l) (okl : okLi m l)
    (K : ∀ h', mFr2 aLvM h h' → Q (some (.inl (b2i (hdB L U C l (jT l j) (k % 32) (k / 32))))) h') : mC G kX12_holds (d + 4) b [.inr (some 47), .inl (nI c), .inl (nI k), .inl (nI (6 * i + j)), .inl (nI i)] h Q := by
  obtain ⟨-, -, -, l4, l5, l6, l7⟩ := hl
  obtain ⟨-, -, -, o4, o5, o6, o7⟩ := okl
  obtain ⟨n1, n2, n3⟩ := l7 j hj
  obtain ⟨t1, t2⟩ := o7 j hj
  have v72 : vp_in (nI (6 * i + j)) 72 := vp_in_nI (by omega) (by omega)
  have v12 : vp_in (nI i) 12 := vp_in_nI (by omega) (by omega)
  have hm6 := hU.2.1
  refine qX12_holds _ _ _ _ hS ?_
  rw [nI_clamp (show 6 * i + j < 2 ^ 31 by omega), nI_clamp (show i < 2 ^ 31 by omega), n1, n2, l4, l5, show (32 : Int32) = nI 32 from rfl, ii_rem (by omega) (by omega) (by omega), ii_div (by omega) (by omega) (by omega)]
  unfold hdB at K
  cases ht : (jT l j).1 with
  | true =>
    obtain ⟨u1, u2, u3⟩ := t1 ht
    rw [ht] at K
    simp only [if_true] at K ⊢
    have hneg : iI ((jT l j).2.1 - 10) < 0 := by
      rw [show (0 : Int32) = iI 0 from rfl, ii_lt ⟨by omega, by omega⟩ ⟨by omega, by omega⟩]; omega
    have hd : iI ((jT l j).2.1 - 10) + 10 = nI (jT l j).2.1 := by
      rw [show (10 : Int32) = iI 10 from rfl, ii_add, ii_nat]; congr 1; omega
    rw [hd]
    have e0 : nI (jT l j).2.2.1 = 0 ↔ (jT l j).2.2.1 = 0 := nI_eq (b := 0) (by omega) (by omega)
    refine ⟨v72, fun _ => ⟨v72, v72, fun z => ?_, fun z => ?_⟩, fun z => absurd hneg z⟩
    · rw [if_neg (fun t => z (e0.mpr t))] at K
      refine m_echoOf hS hc u1 (by omega) (by omega) hC okr hL hw ⟨_, rfl, hS, v72, fun w ew => ?_⟩
      have hec : ecC C (jT l j).2.1 (k % 32) (k / 32) < 1000 := by
        have a1 := fcS_le C (jT l j).2.1 (rm4 (jT l j).2.1 (k % 32) (k / 32)) (k % 32) (k / 32)
        have a2 := rm4_31 (q := (jT l j).2.1) (x := k % 32) (y := k / 32) (by omega) (by omega)
        unfold ecC; split <;> first | omega | (split <;> omega)
      have e1 : nI (ecC C (jT l j).2.1 (k % 32) (k / 32)) = nI (jT l j).2.2.1 ↔ ecC C (jT l j).2.1 (k % 32) (k / 32) = (jT l j).2.2.1 := nI_eq (by omega) (by omega)
      rw [n2] at ew
      have := K h mFr2.rf
      by_cases hh : ecC C (jT l j).2.1 (k % 32) (k / 32) = (jT l j).2.2.1
      · rw [ew, if_neg (fun t => t (e1.mpr hh))]
        rw [decide_eq_true hh] at this; exact this
      · rw [ew, if_pos (fun t => hh (e1.mp t))]
        rw [decide_eq_false hh] at this; exact this
    · rw [if_pos (e0.mp z)] at K
      exact m_mayBeNone hS hc u1 (by omega) (by omega) hC okr hL hw ⟨_, rfl, hS, b2i_b _, K h mFr2.rf⟩
  | false =>
    obtain ⟨u1, u2, u3⟩ := t2 ht
    rw [ht] at K
    simp only [if_neg (show ¬ (false = true) by decide)] at K ⊢
    have hpos : ¬ nI (jT l j).2.1 < 0 := nI_pos (by omega)
    refine ⟨v72, fun z => absurd z hpos, fun _ => ⟨v72, v12, v12, ?_⟩⟩
    refine m_levelOf hS hc hL hU u1 lw ok (by omega) (by omega) (fun h1 f1 => ⟨_, rfl, f1.1.sk hS, v72, v72, fun w ew => ?_⟩)
    obtain ⟨g1, g2⟩ := lvN_eq L U C (jT l j).2.1 (k % 32) (k / 32) (jH l) (jW l)
    rw [f1.2 76 _ (fun z => by unfold aLvM at z; omega), f1.2 77 _ (fun z => by unfold aLvM at z; omega), n2, n3, g2, (f_abs_n (by omega) (by omega)).2] at ew
    have hds : dst (lvN L U C (jT l j).2.1 (k % 32) (k / 32) (jH l) (jW l)) (jT l j).2.2.1 < 1000 := by unfold dst; omega
    have := K h1 f1
    by_cases hh : dst (lvN L U C (jT l j).2.1 (k % 32) (k / 32) (jH l) (jW l)) (jT l j).2.2.1 ≤ (jT l j).2.2.2
    · rw [ew, if_neg (nI_nlt (by omega) (by omega))]
      rw [decide_eq_true hh] at this; exact this
    · rw [ew, if_pos (nI_lt (by omega) (by omega))]
      rw [decide_eq_false hh] at this; exact this
def aOwn : Nat → Nat → Prop := fun a _ => a = 67 ∨ a = 68 ∨ a = 78
set_option maxHeartbeats 2000000 in
theorem m_laysOwn {c n m : Nat} {C : aCo} {U : aSo} {L : aLw} {J : Nat → aLi} (hS : mSk h) (hc : c < 8) (hC : mCoM h c C) (okr : okRing C) (hL : mLa h c C) (hU : soM h m U) (lw : lwM h L) (ok : okLw L) (hJ : lgM h m n J)
    (K : ∀ h', mFr2 aOwn h h' → (∀ i k, i < n → k < 1024 → mI h' 78 (1024 * i + k) = nI (owK L U C (J i) k)) → Q none h') : mC G kX12_laysOwn (d + 5) b [.inr (some 47), .inl (nI c)] h Q := by
  have h12 := hJ.2.1
  refine qX12_laysOwn _ hS ?_
  refine mloop (W := fun i h1 => mW G kX12_laysOwn (d + 5) b 2 [some (.inr (some 47)), some (.inl (nI c)), some (.inl (nI i)), none, none, none] [] h1 Q)
    (P := fun i h1 => mFr2 aOwn h h1 ∧ ∀ i' k, i' < i → k < 1024 → mI h1 78 (1024 * i' + k) = nI (owK L U C (J i') k)) n ?_ ?_ 0 h (by omega) ⟨mFr2.rf, fun i' k z => by omega⟩
  · rintro i h1 hi ⟨f1, c1⟩ ih
    have hS1 := f1.1.sk hS
    have e33 : mI h1 47 33 = nI n := by rw [f1.2 _ _ (fun z => by unfold aOwn at z; omega)]; exact hJ.1
    refine qX12_laysOwn_2 _ _ hS1 ⟨fun z => absurd z (by rw [e33]; exact nI_ge hi (by omega)), fun _ => ?_⟩
    refine mloop (W := fun k h2 => mW G kX12_laysOwn (d + 5) b 12 [some (.inr (some 47)), some (.inl (nI c)), some (.inl (nI i)), some (.inl (nI k)), none, none] [] h2 Q)
      (P := fun k h2 => mFr2 aOwn h h2 ∧ (∀ i' k', i' < i → k' < 1024 → mI h2 78 (1024 * i' + k') = nI (owK L U C (J i') k')) ∧ ∀ k', k' < k → mI h2 78 (1024 * i + k') = nI (owK L U C (J i) k')) 1024 ?_ ?_ 0 h1 (by omega) ⟨f1, c1, fun k' z => by omega⟩
    · rintro k h2 hk ⟨f2, c2, c3⟩ ih2
      have hS2 := f2.1.sk hS
      have hL2 : mLa h2 c C := mLa.fr f2 (fun k z => by unfold aOwn at z; omega) hL
      have e1 : (1024 : Int32) * nI c + nI k = nI (1024 * c + k) := by rw [L1024, pk_mul, nI_add]
      have hst : (1024 : Int32) * nI i + nI k = nI (1024 * i + k) := by rw [L1024, pk_mul, nI_add]
      obtain ⟨okl1, okl2⟩ := hJ.2.2 i hi
      have h6 := okl2.2.2.2.2.2.1
      have v12 : vp_in (nI i) 12 := vp_in_nI (by omega) (by omega)
      have vst : vp_in (nI (1024 * i + k)) 12288 := vp_in_nI (by omega) (by omega)
      have done : ∀ h3 v, mFr2 aOwn h h3 → (∀ a j, a = 78 → mI h3 a j = mI h2 a j) → v = nI (owK L U C (J i) k) → mW G kX12_laysOwn (d + 5) b 12 [some (.inr (some 47)), some (.inl (nI c)), some (.inl (nI i)), some (.inl (nI (k + 1))), none, none] [] (mSI h3 78 (1024 * i + k) v) Q := by
        intro h3 v f3 s3 ev
        refine ih2 _ ⟨f3.tr (mFr2.SI (Or.inr (Or.inr rfl))), fun i' k' hi' hk' => ?_, fun k' hk' => ?_⟩
        · rw [mI_SI_k (by omega), s3 _ _ rfl]; exact c2 i' k' hi' hk'
        · by_cases e : k' = k
          · rw [e, mI_SI_s]; exact ev
          · rw [mI_SI_k (by omega), s3 _ _ rfl]; exact c3 k' (by omega)
      refine qX12_laysOwn_12 _ _ _ hS2 ⟨fun z => absurd z (nI_ge (b := 1024) hk (by omega)), fun _ => ?_⟩
      rw [e1, nI_clamp (by omega), hL2 k hk]
      refine ⟨vp_in_nI (by omega) (by omega), fun z => ?_, fun z => ?_⟩
      · have hwa := b2i_0.mp z
        refine mloop (W := fun j h3 => mW G kX12_laysOwn (d + 5) b 46 [some (.inr (some 47)), some (.inl (nI c)), some (.inl (nI i)), some (.inl (nI k)), some (.inl (nI (wrC L U C (J i) (k % 32) (k / 32) j))), some (.inl (nI j))] [] h3 Q)
          (P := fun j h3 => mFr2 aOwn h h3 ∧ ∀ a j, a = 78 → mI h3 a j = mI h2 a j) (jN (J i)) ?_ ?_ 0 h2 (by omega) ⟨f2, fun _ _ _ => rfl⟩
        · rintro j h3 hj ⟨f3, s3⟩ ih3
          have hS3 := f3.1.sk hS
          have l3 := liM.fr f3 (fun a k z1 z2 z => by unfold aOwn at z; omega) okl1
          have hwr := cnt_le (fun k' => !hdB L U C (J i) (jT (J i) k') (k % 32) (k / 32)) j
          refine qX12_laysOwn_46 _ _ _ _ _ hS3 ⟨v12, ?_⟩
          rw [nI_clamp (show i < 2 ^ 31 by omega), l3.2.2.2.2.2.1, show (6 : Int32) = nI 6 from rfl, pk_mul, nI_add]
          refine ⟨fun z => absurd z (nI_ge hj (by omega)), fun _ => ⟨fun z => absurd z (nI_ge (b := 1000000000) (by unfold wrC; omega) (by omega)), fun _ => ?_⟩⟩
          refine m_holds hS3 hc hk (by omega) hj (mCoM.fr f3 (fun a k z1 z2 z => by unfold aOwn at z; omega) hC) okr (mLa.fr f3 (fun k z => by unfold aOwn at z; omega) hL) hwa (soM.fr f3 (fun a k z1 z2 z => by unfold aOwn at z; omega) (fun z => by unfold aOwn at z; omega) hU) (lwM.fr f3 (fun a k z => by unfold aOwn; omega) lw) ok l3 okl2 (fun h4 f4 => ⟨_, rfl, f4.1.sk hS3, fun w ew => ?_⟩)
          have ih4 := ih3 h4 ⟨f3.tr (f4.wk (fun x k z => by unfold aLvM at z; unfold aOwn; omega)), fun a j ha => by rw [f4.2 _ _ (fun z => by unfold aLvM at z; omega)]; exact s3 a j ha⟩
          have ew2 : nI (wrC L U C (J i) (k % 32) (k / 32) j) + w = nI (wrC L U C (J i) (k % 32) (k / 32) (j + 1)) := by
            unfold wrC
            rw [cnt]
            cases hh : hdB L U C (J i) (jT (J i) j) (k % 32) (k / 32) with
            | true =>
              rw [hh] at ew
              have : w = nI 0 := by rw [ew]; rfl
              rw [this, nI_add]; rfl
            | false =>
              rw [hh] at ew
              have : w = nI 1 := by rw [ew]; rfl
              rw [this, nI_add]; rfl
          rw [ew2, nI_1]
          exact ih4
        · rintro h3 ⟨f3, s3⟩
          have hS3 := f3.1.sk hS
          have l3 := liM.fr f3 (fun a k z1 z2 z => by unfold aOwn at z; omega) okl1
          refine qX12_laysOwn_46 _ _ _ _ _ hS3 ⟨v12, ?_⟩
          rw [nI_clamp (show i < 2 ^ 31 by omega), l3.2.2.2.2.2.1, hst, nI_1]
          refine ⟨fun _ => ⟨vst, fun h4 e4 => ?_⟩, fun z => absurd (nI_le (by omega) (by omega)) z⟩
          rw [e4, nI_clamp (by omega)]
          refine done h3 _ f3 s3 ?_
          unfold owK owC
          rw [hwa]; rfl
      · have hla : coLand C (k % 32) (k / 32) = true := by
          cases hb : coLand C (k % 32) (k / 32) with
          | true => rfl
          | false => exact absurd (b2i_0.mpr hb) z
        have l2 := liM.fr f2 (fun a k z1 z2 z => by unfold aOwn at z; omega) okl1
        have ev : (1000000000 : Int32) = nI (owK L U C (J i) k) := by unfold owK owC; rw [hla]; rfl
        refine qX12_laysOwn_46 _ _ _ _ _ hS2 ⟨v12, ?_⟩
        rw [hst, nI_1, nI_clamp (show 1024 * i + k < 2 ^ 31 by omega)]
        refine ⟨fun _ => ⟨vst, fun h4 e4 => ?_⟩, fun _ => ⟨fun _ => ⟨vst, fun h4 e4 => ?_⟩, fun z => absurd (by decide) z⟩⟩
        · rw [e4]; exact done h2 _ f2 (fun _ _ _ => rfl) ev
        · rw [e4]; exact done h2 _ f2 (fun _ _ _ => rfl) ev
    · rintro h2 ⟨f2, c2, c3⟩
      refine qX12_laysOwn_12 _ _ _ (f2.1.sk hS) ⟨fun _ => ?_, fun z => absurd (by decide) z⟩
      rw [nI_1]
      refine ih h2 ⟨f2, fun i' k hi' hk => ?_⟩
      by_cases e : i' = i
      · rw [e]; exact c3 k hk
      · exact c2 i' k (by omega) hk
  · rintro h1 ⟨f1, c1⟩
    have e33 : mI h1 47 33 = nI n := by rw [f1.2 _ _ (fun z => by unfold aOwn at z; omega)]; exact hJ.1
    exact qX12_laysOwn_2 _ _ (f1.1.sk hS) ⟨fun _ => K h1 f1 c1, fun z => absurd (by rw [e33]; exact nI_le (by omega) (by omega)) z⟩
end
