/-! the model's world, forth, behind, fits, possible -/
abbrev aW : Type := (Nat × (Nat → aCo)) × (Nat × aSo) × aLw × (Nat × (Nat → aLi)) × aBx × Nat
def wn (W : aW) : Nat := W.1.1
def wC (W : aW) : Nat → aCo := W.1.2
def wm (W : aW) : Nat := W.2.1.1
def wU (W : aW) : aSo := W.2.1.2
def wL (W : aW) : aLw := W.2.2.1
def wl (W : aW) : Nat := W.2.2.2.1.1
def wJ (W : aW) : Nat → aLi := W.2.2.2.1.2
def wB (W : aW) : aBx := W.2.2.2.2.1
def ws (W : aW) : Nat := W.2.2.2.2.2
def mWo (h : mH) (W : aW) : Prop := mCh h (wn W) (wC W) ∧ soM h (wm W) (wU W) ∧ lwM h (wL W) ∧ okLw (wL W) ∧ lgM h (wm W) (wl W) (wJ W) ∧ bxM h (wB W) ∧ mI h 47 34 = nI (ws W) ∧ ws W ≤ 3
/-- the cells of the model that hold the world -/
def dM (a k : Nat) : Prop := (48 ≤ a ∧ a ≤ 56) ∨ (63 ≤ a ∧ a ≤ 66) ∨ (69 ≤ a ∧ a ≤ 77) ∨ (a = 47 ∧ (k = 0 ∨ k = 6 ∨ k = 21 ∨ (33 ≤ k ∧ k ≤ 38)))
theorem mWo.fr {A : Nat → Nat → Prop} {h h' : mH} {W : aW} (f : mFr2 A h h') (hA : ∀ a k, dM a k → ¬ A a k) (hW : mWo h W) : mWo h' W := by
  obtain ⟨h1, h2, h3, h4, h5, h6, h7, h8⟩ := hW
  refine ⟨mCh.fr f (fun a k z1 z2 => hA a k (by unfold dM; omega)) (hA 47 0 (by unfold dM; omega)) h1, soM.fr f (fun a k z1 z2 => hA a k (by unfold dM; omega)) (hA 47 6 (by unfold dM; omega)) h2, lwM.fr f (fun a k z => hA a k (by unfold dM; omega)) h3, h4, lgM.fr f (fun a k z1 z2 => hA a k (by unfold dM; omega)) (hA 47 33 (by unfold dM; omega)) h5, ?_, by rw [f.2 _ _ (hA 47 34 (by unfold dM; omega))]; exact h7, h8⟩
  obtain ⟨⟨b1, b2, b3, b4⟩, o⟩ := h6
  exact ⟨⟨by rw [f.2 _ _ (hA 47 35 (by unfold dM; omega))]; exact b1, by rw [f.2 _ _ (hA 47 36 (by unfold dM; omega))]; exact b2, by rw [f.2 _ _ (hA 47 37 (by unfold dM; omega))]; exact b3, by rw [f.2 _ _ (hA 47 38 (by unfold dM; omega))]; exact b4⟩, o⟩
def wO (W : aW) (c : Nat) : Nat → Nat → Nat := fun i k => owK (wL W) (wU W) (wC W c) (wJ W i) k
noncomputable def wF (W : aW) (c : Nat) : Nat → Nat → Nat := foV (wO W c) (wJ W) (wB W)
noncomputable def wE (W : aW) (c i k : Nat) : Nat := beV (wO W c) (wJ W) (wl W) (wl W - 1 - i) k
theorem wO_ok {h : mH} {W : aW} (hW : mWo h W) (c : Nat) : okO2 (wl W) (wO W c) := by
  intro i k hi
  have h6 := (hW.2.2.2.2.1.2.2 i hi).2.2.2.2.2.2.1
  unfold wO owK owC
  split
  · exact Or.inl rfl
  · have := cnt_le (fun k' => !hdB (wL W) (wU W) (wC W c) (wJ W i) (jT (wJ W i) k') (k % 32) (k / 32)) (jN (wJ W i))
    right
    unfold wrC
    omega
def aFo : Nat → Nat → Prop := fun a _ => a = 67 ∨ a = 68 ∨ a = 78 ∨ a = 79 ∨ a = 80
theorem aFo_d : ∀ a k, dM a k → ¬ aFo a k := fun a k z1 z2 => by unfold dM at z1; unfold aFo at z2; omega
def ownM (h : mH) (W : aW) (c : Nat) : Prop := ∀ i k, i < wl W → k < 1024 → mI h 78 (1024 * i + k) = nI (wO W c i k)
def forM (h : mH) (W : aW) (c : Nat) : Prop := ∀ i k, i < wl W → k < 1024 → mI h 79 (1024 * i + k) = nI (wF W c i k)
def behM (h : mH) (W : aW) (c : Nat) : Prop := ∀ i k, i < wl W → k < 1024 → mI h 80 (1024 * i + k) = nI (wE W c i k)
def a79 : Nat → Nat → Prop := fun a _ => a = 79
def a80 : Nat → Nat → Prop := fun a _ => a = 80
theorem FAR_n {n : Nat} (h : n = FARn ∨ n ≤ 6) : n ≤ FARn := by unfold FARn at *; omega
section
variable {G : mG} {d : Nat} {b : Nat × Nat} {h : mH} {Q : Option mV → mH → Prop}
theorem m_ownW {c : Nat} {W : aW} (hS : mSk h) (hW : mWo h W) (hc : c < wn W) (K : ∀ h', mFr2 aFo h h' → ownM h' W c → Q none h') : mC G kX12_laysOwn (d + 5) b [.inr (some 47), .inl (nI c)] h Q := by
  obtain ⟨h1, h2, h3, h4, h5, -, -⟩ := hW
  obtain ⟨k1, k2, k3⟩ := h1.2.2 c hc
  have := h1.2.1
  exact m_laysOwn hS (by omega) k1 k2 k3 h2 h3 h4 h5 (fun h' f' o' => K h' (f'.wk (fun x k z => by unfold aOwn at z; unfold aFo; omega)) o')
set_option maxHeartbeats 1000000 in
theorem m_forW {c : Nat} {W : aW} (hS : mSk h) (hW : mWo h W) (ho : ownM h W c) (K : ∀ h', mFr2 a79 h h' → forM h' W c → Q none h') : mC G kX12_laysForth (d + 2) b [.inr (some 47)] h Q := by
  have hl := hW.2.2.2.2.1.2.1
  have okO := wO_ok hW c
  have hB := foV_b okO hl (wJ W) (wB W)
  refine qX12_laysForth hS ?_
  refine mloop (W := fun i h1 => mW G kX12_laysForth (d + 2) b 2 [some (.inr (some 47)), some (.inl (nI i)), none, none] [] h1 Q)
    (P := fun i h1 => mFr2 a79 h h1 ∧ ∀ i' k, i' < i → k < 1024 → mI h1 79 (1024 * i' + k) = nI (wF W c i' k)) (wl W) ?_ ?_ 0 h (by omega) ⟨mFr2.rf, fun i' k z => by omega⟩
  · rintro i h1 hi ⟨f1, c1⟩ ih
    have e33 : mI h1 47 33 = nI (wl W) := by rw [f1.2 _ _ (fun z => by unfold a79 at z; omega)]; exact hW.2.2.2.2.1.1
    refine qX12_laysForth_2 _ (f1.1.sk hS) ⟨fun z => absurd z (by rw [e33]; exact nI_ge hi (by omega)), fun _ => ?_⟩
    refine mloop (W := fun k h2 => mW G kX12_laysForth (d + 2) b 12 [some (.inr (some 47)), some (.inl (nI i)), some (.inl (nI k)), none] [] h2 Q)
      (P := fun k h2 => mFr2 a79 h h2 ∧ (∀ i' k', i' < i → k' < 1024 → mI h2 79 (1024 * i' + k') = nI (wF W c i' k')) ∧ ∀ k', k' < k → mI h2 79 (1024 * i + k') = nI (wF W c i k')) 1024 ?_ ?_ 0 h1 (by omega) ⟨f1, c1, fun k' z => by omega⟩
    · rintro k h2 hk ⟨f2, c2, c3⟩ ih2
      have hS2 := f2.1.sk hS
      have hW2 : mWo h2 W := mWo.fr f2 (fun a k z1 z2 => by unfold dM at z1; unfold a79 at z2; omega) hW
      have hst : (1024 : Int32) * nI i + nI k = nI (1024 * i + k) := by rw [L1024, pk_mul, nI_add]
      have vst : vp_in (nI (1024 * i + k)) 12288 := vp_in_nI (by omega) (by omega)
      have v12 : vp_in (nI i) 12 := vp_in_nI (by omega) (by omega)
      have own : mI h2 78 (1024 * i + k) = nI (wO W c i k) := by rw [f2.2 _ _ (fun z => by unfold a79 at z; omega)]; exact ho i k hi hk
      have hOk := FAR_n (okO i k hi)
      have done : ∀ v, v = nI (wF W c i k) → mW G kX12_laysForth (d + 2) b 12 [some (.inr (some 47)), some (.inl (nI i)), some (.inl (nI (k + 1))), none] [] (mSI h2 79 (1024 * i + k) v) Q := by
        intro v ev
        refine ih2 _ ⟨f2.tr (mFr2.SI rfl), fun i' k' hi' hk' => ?_, fun k' hk' => ?_⟩
        · rw [mI_SI_k (by omega)]; exact c2 i' k' hi' hk'
        · by_cases e : k' = k
          · rw [e, mI_SI_s]; exact ev
          · rw [mI_SI_k (by omega)]; exact c3 k' (by omega)
      refine qX12_laysForth_12 _ _ hS2 ⟨fun z => absurd z (nI_ge (b := 1024) hk (by omega)), fun _ => ?_⟩
      rw [hst, nI_1, nI_clamp (show 1024 * i + k < 2 ^ 31 by omega), nI_clamp (show i < 2 ^ 31 by omega)]
      obtain ⟨⟨g1, g2, g3, -⟩, o1, o2, o3, -⟩ := hW2.2.2.2.2.1.2.2 i hi
      have e0 : nI i = 0 ↔ i = 0 := nI_eq (b := 0) (by omega) (by omega)
      refine ⟨fun z => ⟨v12, v12, v12, ?_⟩, fun z => ?_⟩
      · have hi0 : i ≠ 0 := fun t => z (e0.mpr t)
        obtain ⟨j, rfl⟩ : ∃ j, i = j + 1 := ⟨i - 1, by omega⟩
        rw [g1, g2, g3, L32, ii_rem (by omega) (by omega) (by omega), ii_div (by omega) (by omega) (by omega), nI_pred, ii_nat (k % 32), ii_nat (k / 32), ii_sub, ii_sub]
        refine m_leastAround (V := wF W c j) hS2 (skT_79 hS2) (skL_79 hS2) (by omega) (fun k' _ => (hB j k' (by omega)).1) (fun k' hk' => c2 j k' (by omega) hk') (by omega) (by omega) o3 ⟨_, rfl, hS2, vst, vst, fun h8 e8 => ?_⟩
        have hlar := (lar_b (fun k' => hB j k' (by omega)) ((k % 32 : Nat) - jX (wJ W (j + 1))) ((k / 32 : Nat) - jY (wJ W (j + 1))) (jD (wJ W (j + 1)))).1
        rw [own, show wF W c j = foV (wO W c) (wJ W) (wB W) j from rfl, sm_n hlar hOk] at e8
        rw [e8]
        exact done _ rfl
      · have hi0 := e0.mp z
        subst hi0
        refine m_isInBox hS2 hW2.2.2.2.2.2.1 hk ⟨_, rfl, hS2, fun z => ⟨vst, vst, fun h8 e8 => ?_⟩, fun z => ⟨vst, vst, fun h8 e8 => ?_⟩⟩
        · rw [own, L1e9, sm_n (a := 1000000000) (Nat.le_refl _) hOk] at e8
          rw [e8]
          refine done _ ?_
          show _ = nI (sm (if inBx (wB W) k then 0 else FARn) (wO W c 0 k))
          rw [b2i_0.mp z]; rfl
        · rw [own, show (0 : Int32) = nI 0 from rfl, sm_n (Nat.zero_le _) hOk] at e8
          rw [e8]
          refine done _ ?_
          show _ = nI (sm (if inBx (wB W) k then 0 else FARn) (wO W c 0 k))
          cases hb : inBx (wB W) k with
          | true => rfl
          | false => exact absurd (b2i_0.mpr hb) z
    · rintro h2 ⟨f2, c2, c3⟩
      refine qX12_laysForth_12 _ _ (f2.1.sk hS) ⟨fun _ => ?_, fun z => absurd (by decide) z⟩
      rw [nI_1]
      refine ih h2 ⟨f2, fun i' k hi' hk => ?_⟩
      by_cases e : i' = i
      · rw [e]; exact c3 k hk
      · exact c2 i' k (by omega) hk
  · rintro h1 ⟨f1, c1⟩
    have e33 : mI h1 47 33 = nI (wl W) := by rw [f1.2 _ _ (fun z => by unfold a79 at z; omega)]; exact hW.2.2.2.2.1.1
    exact qX12_laysForth_2 _ (f1.1.sk hS) ⟨fun _ => K h1 f1 c1, fun z => absurd (by rw [e33]; exact nI_le (by omega) (by omega)) z⟩
set_option maxHeartbeats 1000000 in
theorem m_behW {c : Nat} {W : aW} (hS : mSk h) (hW : mWo h W) (h0 : 0 < wl W) (ho : ownM h W c) (K : ∀ h', mFr2 a80 h h' → behM h' W c → Q none h') : mC G kX12_laysBehind (d + 2) b [.inr (some 47)] h Q := by
  have hl := hW.2.2.2.2.1.2.1
  have okO := wO_ok hW c
  have hB := beV_b okO hl (wJ W)
  have e0 : mI h 47 33 - 1 = nI (wl W - 1) := by
    rw [hW.2.2.2.2.1.1]
    obtain ⟨m, hm⟩ : ∃ m, wl W = m + 1 := ⟨wl W - 1, by omega⟩
    rw [hm]; exact nI_pred m
  refine qX12_laysBehind hS ?_
  rw [e0, ii_nat]
  have em : iI ((wl W - 1 : Nat) : Int) = iI ((wl W : Int) - 1 - (0 : Nat)) := by congr 1; omega
  rw [em]
  refine mloop (W := fun r h1 => mW G kX12_laysBehind (d + 2) b 7 [some (.inr (some 47)), some (.inl (iI ((wl W : Int) - 1 - r))), none, none] [] h1 Q)
    (P := fun r h1 => mFr2 a80 h h1 ∧ ∀ r' k, r' < r → k < 1024 → mI h1 80 (1024 * (wl W - 1 - r') + k) = nI (beV (wO W c) (wJ W) (wl W) r' k)) (wl W) ?_ ?_ 0 h (by omega) ⟨mFr2.rf, fun r' k z => by omega⟩
  · rintro r h1 hr ⟨f1, c1⟩ ih
    refine qX12_laysBehind_7 _ (f1.1.sk hS) ⟨fun z => ?_, fun _ => ?_⟩
    · rw [show (0 : Int32) = iI 0 from rfl, ii_lt ⟨by omega, by omega⟩ ⟨by omega, by omega⟩] at z; omega
    have ei : iI ((wl W : Int) - 1 - r) = nI (wl W - 1 - r) := by rw [ii_nat]; congr 1; omega
    rw [ei]
    refine mloop (W := fun k h2 => mW G kX12_laysBehind (d + 2) b 13 [some (.inr (some 47)), some (.inl (nI (wl W - 1 - r))), some (.inl (nI k)), none] [] h2 Q)
      (P := fun k h2 => mFr2 a80 h h2 ∧ (∀ r' k', r' < r → k' < 1024 → mI h2 80 (1024 * (wl W - 1 - r') + k') = nI (beV (wO W c) (wJ W) (wl W) r' k')) ∧ ∀ k', k' < k → mI h2 80 (1024 * (wl W - 1 - r) + k') = nI (beV (wO W c) (wJ W) (wl W) r k')) 1024 ?_ ?_ 0 h1 (by omega) ⟨f1, c1, fun k' z => by omega⟩
    · rintro k h2 hk ⟨f2, c2, c3⟩ ih2
      have hS2 := f2.1.sk hS
      have hW2 : mWo h2 W := mWo.fr f2 (fun a k z1 z2 => by unfold dM at z1; unfold a80 at z2; omega) hW
      have hst : (1024 : Int32) * nI (wl W - 1 - r) + nI k = nI (1024 * (wl W - 1 - r) + k) := by rw [L1024, pk_mul, nI_add]
      have vst : vp_in (nI (1024 * (wl W - 1 - r) + k)) 12288 := vp_in_nI (by omega) (by omega)
      have own : mI h2 78 (1024 * (wl W - 1 - r) + k) = nI (wO W c (wl W - 1 - r) k) := by rw [f2.2 _ _ (fun z => by unfold a80 at z; omega)]; exact ho _ k (by omega) hk
      have hOk := FAR_n (okO (wl W - 1 - r) k (by omega))
      have e33 : mI h2 47 33 - 1 = nI (wl W - 1) := by rw [f2.2 _ _ (fun z => by unfold a80 at z; omega)]; exact e0
      have done : ∀ v, v = nI (beV (wO W c) (wJ W) (wl W) r k) → mW G kX12_laysBehind (d + 2) b 13 [some (.inr (some 47)), some (.inl (nI (wl W - 1 - r))), some (.inl (nI (k + 1))), none] [] (mSI h2 80 (1024 * (wl W - 1 - r) + k) v) Q := by
        intro v ev
        refine ih2 _ ⟨f2.tr (mFr2.SI rfl), fun i' k' hi' hk' => ?_, fun k' hk' => ?_⟩
        · rw [mI_SI_k (by omega)]; exact c2 i' k' hi' hk'
        · by_cases e : k' = k
          · rw [e, mI_SI_s]; exact ev
          · rw [mI_SI_k (by omega)]; exact c3 k' (by omega)
      refine qX12_laysBehind_13 _ _ hS2 ⟨fun z => absurd z (nI_ge (b := 1024) hk (by omega)), fun _ => ?_⟩
      rw [hst, nI_1 k, e33, nI_clamp (show 1024 * (wl W - 1 - r) + k < 2 ^ 31 by omega)]
      have er : nI (wl W - 1 - r) = nI (wl W - 1) ↔ r = 0 := by rw [nI_eq (by omega) (by omega)]; omega
      refine ⟨fun z => ?_, fun z => ?_⟩
      · have hr0 : r ≠ 0 := fun t => z (er.mpr t)
        obtain ⟨j, rfl⟩ : ∃ j, r = j + 1 := ⟨r - 1, by omega⟩
        rw [nI_1, show wl W - 1 - (j + 1) + 1 = wl W - 1 - j by omega, nI_clamp (show wl W - 1 - j < 2 ^ 31 by omega)]
        have v12 : vp_in (nI (wl W - 1 - j)) 12 := vp_in_nI (by omega) (by omega)
        obtain ⟨⟨g1, g2, g3, -⟩, o1, o2, o3, -⟩ := hW2.2.2.2.2.1.2.2 (wl W - 1 - j) (by omega)
        rw [g1, g2, g3, L32, ii_rem (by omega) (by omega) (by omega), ii_div (by omega) (by omega) (by omega), ii_nat (k % 32), ii_nat (k / 32), ii_add, ii_add]
        refine ⟨v12, v12, v12, ?_⟩
        refine m_leastAround (V := beV (wO W c) (wJ W) (wl W) j) hS2 (skT_80 hS2) (skL_80 hS2) (by omega) (fun k' _ => (hB j k' (by omega)).1) (fun k' hk' => c2 j k' (by omega) hk') (by omega) (by omega) o3 ⟨_, rfl, hS2, vst, vst, fun h8 e8 => ?_⟩
        have hlar := (lar_b (fun k' => hB j k' (by omega)) ((k % 32 : Nat) + jX (wJ W (wl W - 1 - j))) ((k / 32 : Nat) + jY (wJ W (wl W - 1 - j))) (jD (wJ W (wl W - 1 - j)))).1
        rw [own, sm_n hlar hOk] at e8
        rw [e8]
        refine done _ ?_
        rw [show wl W - 1 - (j + 1) = wl W - 2 - j by omega]; rfl
      · have hr0 := er.mp z
        subst hr0
        refine ⟨vst, vst, fun h8 e8 => ?_⟩
        rw [own, show (0 : Int32) = nI 0 from rfl, sm_n (Nat.zero_le _) hOk] at e8
        rw [e8]
        exact done _ rfl
    · rintro h2 ⟨f2, c2, c3⟩
      refine qX12_laysBehind_13 _ _ (f2.1.sk hS) ⟨fun _ => ?_, fun z => absurd (by decide) z⟩
      have e9 : nI (wl W - 1 - r) + (-1) = iI ((wl W : Int) - 1 - (r + 1 : Nat)) := by
        rw [ii_nat, show (-1 : Int32) = iI (-1) from rfl, ii_add]; congr 1; omega
      rw [e9]
      refine ih h2 ⟨f2, fun i' k hi' hk => ?_⟩
      by_cases e : i' = r
      · rw [e]; exact c3 k hk
      · exact c2 i' k (by omega) hk
  · rintro h1 ⟨f1, c1⟩
    refine qX12_laysBehind_7 _ (f1.1.sk hS) ⟨fun _ => K h1 f1 (fun i k hi hk => ?_), fun z => absurd ?_ z⟩
    · have := c1 (wl W - 1 - i) k (by omega) hk
      rw [show wl W - 1 - (wl W - 1 - i) = i by omega] at this
      exact this
    · rw [show (0 : Int32) = iI 0 from rfl, ii_lt ⟨by omega, by omega⟩ ⟨by omega, by omega⟩]; omega
theorem m_leastAt {c i : Nat} {W : aW} (hS : mSk h) (hW : mWo h W) (hf : forM h W c) (hi : i < wl W) (K : Q (some (.inl (nI (mnN (wF W c i) 1024)))) h) : mC G kX12_leastAt (d + 1) b [.inr (some 47), .inl (nI i)] h Q := by
  have hl := hW.2.2.2.2.1.2.1
  have hB := foV_b (wO_ok hW c) hl (wJ W) (wB W)
  refine qX12_leastAt _ hS ?_
  refine mloop (W := fun k h1 => mW G kX12_leastAt (d + 1) b 6 [some (.inr (some 47)), some (.inl (nI i)), some (.inl (nI (mnN (wF W c i) k))), some (.inl (nI k))] [] h1 Q) (P := fun k h1 => h1 = h) 1024 ?_ ?_ 0 h (by omega) rfl
  · rintro k h1 hk rfl ih
    have hst : (1024 : Int32) * nI i + nI k = nI (1024 * i + k) := by rw [L1024, pk_mul, nI_add]
    refine qX12_leastAt_6 _ _ _ hS ⟨fun z => absurd z (nI_ge (b := 1024) hk (by omega)), fun _ => ?_⟩
    rw [hst, nI_clamp (by omega), hf i k hi hk, least_n (a := mnN (wF W c i) k) (c := wF W c i k) (mnN_all (fun k' _ => (hB i k' hi).1) k (by omega)).1 (hB i k hi).1, nI_1]
    exact ⟨vp_in_nI (by omega) (by omega), ih h1 rfl⟩
  · rintro h1 rfl
    exact qX12_leastAt_6 _ _ _ hS ⟨fun _ => K, fun z => absurd (by decide) z⟩
end
