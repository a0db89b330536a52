/-! what is surely water (model); pools -/
noncomputable def swB (W : aW) (x y : Nat) : Bool := @decide (¬ noFit W ∧ slP W false x y) (Classical.propDecidable _)
theorem swB_t {W : aW} {x y : Nat} : swB W x y = true ↔ (¬ noFit W ∧ slP W false x y) := @decide_eq_true_iff _ (Classical.propDecidable _)
theorem fi_pos {v : Int32} {W : aW} (hn : wn W ≤ 8) (h : isFi v W) : v ≤ 0 ↔ noFit W := by
  have h31 := h 31 (by omega)
  rw [decide_eq_false (by omega), Bool.false_and] at h31
  have hm : v.toBitVec.msb = false := by
    rw [BitVec.msb_eq_getLsbD_last]
    exact h31
  have hp : ¬ v.toBitVec.toInt < 0 := by
    rw [BitVec.msb_eq_toInt] at hm
    simpa using hm
  rw [← isFi_0 hn h]
  constructor
  · intro z
    rw [Int32.le_iff_toInt_le] at z
    have h0 : v.toInt = 0 := by
      have e : v.toInt = v.toBitVec.toInt := rfl
      have e0 : (0 : Int32).toInt = 0 := rfl
      omega
    have := ii_of v
    rw [h0] at this
    exact this
  · intro z; rw [z]; decide
section
variable {G : mG} {d : Nat} {b : Nat × Nat} {h : mH} {Q : Option mV → mH → Prop}
def aSr : Nat → Nat → Prop := fun a k => aFi a k ∨ a = 88
theorem aSr_d : ∀ a k, dM a k → ¬ aSr a k := fun a k z1 z2 => by unfold dM at z1; unfold aSr aFi aFo at z2; omega
theorem m_laysSure {W : aW} (hS : mSk h) (hW : mWo h W) (K : ∀ h', mFr2 aSr h h' → isFi (mI h' 47 51) W → (∀ k, k < 1024 → mI h' 88 k = b2i (swB W (k % 32) (k / 32))) → (noFit W → Q (some (.inl 0)) h') ∧ (¬ noFit W → Q (some (.inl 1)) h')) : mC G kX12_laysSure (d + 8) b [.inr (some 47)] h Q := by
  have hn8 := hW.1.2.1
  refine qX12_laysSure hS (m_laysFitting hS hW (fun h1 f1 F1 => ⟨rfl, f1.1.sk hS, ?_⟩))
  have hS1 := f1.1.sk hS
  have hW1 := mWo.fr f1 aFi_d hW
  refine mloop (W := fun k h2 => mW G kX12_laysSure (d + 8) b 6 [some (.inr (some 47)), some (.inl (nI k))] [] h2 Q)
    (P := fun k h2 => mFr2 (fun a _ => a = 88) h1 h2 ∧ ∀ k', k' < k → mI h2 88 k' = b2i (swB W (k' % 32) (k' / 32))) 1024 ?_ ?_ 0 h1 (by omega) ⟨mFr2.rf, fun k' z => by omega⟩
  · rintro k h2 hk ⟨f2, c2⟩ ih
    have hS2 := f2.1.sk hS1
    have hF2 : isFi (mI h2 47 51) W := by rw [f2.2 _ _ (by omega)]; exact F1
    have hW2 : mWo h2 W := mWo.fr f2 (fun a k z q => by unfold dM at z; omega) hW1
    have done : ∀ v, v = b2i (swB W (k % 32) (k / 32)) → mW G kX12_laysSure (d + 8) b 6 [some (.inr (some 47)), some (.inl (nI (k + 1)))] [] (mSI h2 88 k v) Q := by
      intro v ev
      refine ih _ ⟨f2.tr (mFr2.SI rfl), fun k' hk' => ?_⟩
      by_cases e : k' = k
      · rw [e, mI_SI_s]; exact ev
      · rw [mI_SI_k e]; exact c2 k' (by omega)
    have vk := vp_in_nI (n := k) (N := 1024) hk (by omega)
    refine qX12_laysSure_6 _ hS2 ⟨fun z => absurd z (nI_ge (b := 1024) hk (by omega)), fun _ => ?_⟩
    rw [nI_clamp (show k < 2 ^ 31 by omega), fi_pos hn8 hF2, nI_1]
    refine ⟨fun z => ⟨vk, fun h5 e5 => ?_⟩, fun z => qX12_isSurelyWater _ hS2 (m_lowest 1 (l := true) rfl hS2 hW2.1 hF2 hk ⟨_, rfl, hS2, fun w3 e3 => ⟨_, rfl, hS2, fun w8 e8 => ⟨vk, fun h10 e10 => ?_⟩⟩⟩)⟩
    · rw [e5]
      refine done _ ?_
      have : swB W (k % 32) (k / 32) = false := by
        cases hb : swB W (k % 32) (k / 32) with
        | false => rfl
        | true => exact absurd z (swB_t.mp hb).1
      rw [this]; rfl
    · rw [e10]
      refine done _ ?_
      by_cases q : slP W false (k % 32) (k / 32)
      · have n2 : loV W (k % 32) (k / 32) true = -1 := (loV_m1 hn8).mpr q
        rw [if_neg (fun t => t n2)] at e3
        rw [e8, e3, if_neg (by decide), swB_t.mpr ⟨z, q⟩]; rfl
      · have n2 : ¬ loV W (k % 32) (k / 32) true = -1 := fun t => q ((loV_m1 hn8).mp t)
        have : swB W (k % 32) (k / 32) = false := by
          cases hb : swB W (k % 32) (k / 32) with
          | false => rfl
          | true => exact absurd (swB_t.mp hb).2 q
        rw [if_pos n2] at e3
        rw [e8, e3, if_pos rfl, this]; rfl
  · rintro h2 ⟨f2, c2⟩
    have hF2 : isFi (mI h2 47 51) W := by rw [f2.2 _ _ (by omega)]; exact F1
    have K2 := K h2 ((f1.wk (fun x k z => Or.inl z)).tr (f2.wk (fun x k z => Or.inr z))) hF2 c2
    refine qX12_laysSure_6 _ (f2.1.sk hS1) ⟨fun _ w1 e1 => ?_, fun z => absurd (by decide) z⟩
    by_cases q : noFit W
    · rw [e1, if_pos ((fi_pos hn8 hF2).mpr q)]; exact K2.1 q
    · rw [e1, if_neg (fun t => q ((fi_pos hn8 hF2).mp t))]; exact K2.2 q
end
/-! pools -/
def adj4 (x y x' y' : Nat) : Prop := (x' = x ∧ (y' = y + 1 ∨ y = y' + 1)) ∨ (y' = y ∧ (x' = x + 1 ∨ x = x' + 1))
def plL (S : Nat → Nat → Bool) (x0 y0 : Nat) : Nat → Nat → Nat → Prop
  | 0, x, y => x = x0 ∧ y = y0 ∧ S x0 y0 = true
  | n + 1, x, y => plL S x0 y0 n x y ∨ (S x y = true ∧ ∃ x' y', x' < 32 ∧ y' < 32 ∧ adj4 x' y' x y ∧ plL S x0 y0 n x' y')
def plP (S : Nat → Nat → Bool) (x0 y0 x y : Nat) : Prop := ∃ n, plL S x0 y0 n x y
theorem plL_0 {S : Nat → Nat → Bool} {x0 y0 x y : Nat} : plL S x0 y0 0 x y ↔ (x = x0 ∧ y = y0 ∧ S x0 y0 = true) := Iff.rfl
theorem plL_s {S : Nat → Nat → Bool} {x0 y0 n x y : Nat} : plL S x0 y0 (n + 1) x y ↔ (plL S x0 y0 n x y ∨ (S x y = true ∧ ∃ x' y', x' < 32 ∧ y' < 32 ∧ adj4 x' y' x y ∧ plL S x0 y0 n x' y')) := Iff.rfl
theorem plP_sw {S : Nat → Nat → Bool} {x0 y0 x y : Nat} (h : plP S x0 y0 x y) : S x y = true := by
  obtain ⟨n, hn⟩ := h
  induction n generalizing x y with
  | zero => obtain ⟨e1, e2, e3⟩ := hn; rw [e1, e2]; exact e3
  | succ n ih =>
    rcases plL_s.mp hn with q | q
    · exact ih q
    · exact q.1
theorem plP_0 {S : Nat → Nat → Bool} {x0 y0 : Nat} (h : S x0 y0 = true) : plP S x0 y0 x0 y0 := ⟨0, rfl, rfl, h⟩
theorem plP_st {S : Nat → Nat → Bool} {x0 y0 x y x' y' : Nat} (h : plP S x0 y0 x' y') (hx : x' < 32) (hy : y' < 32) (a : adj4 x' y' x y) (s : S x y = true) : plP S x0 y0 x y := by
  obtain ⟨n, hn⟩ := h
  exact ⟨n + 1, plL_s.mpr (Or.inr ⟨s, x', y', hx, hy, a, hn⟩)⟩
theorem plP_min {S : Nat → Nat → Bool} {x0 y0 : Nat} {F : Nat → Nat → Prop} (h0 : S x0 y0 = true → F x0 y0) (hs : ∀ x y x' y', x' < 32 → y' < 32 → F x' y' → adj4 x' y' x y → S x y = true → F x y) : ∀ x y, plP S x0 y0 x y → F x y := by
  rintro x y ⟨n, hn⟩
  induction n generalizing x y with
  | zero => obtain ⟨e1, e2, e3⟩ := hn; rw [e1, e2]; exact h0 e3
  | succ n ih =>
    rcases plL_s.mp hn with q | ⟨q1, x', y', q2, q3, q4, q5⟩
    · exact ih x y q
    · exact hs x y x' y' q2 q3 (ih x' y' q5) q4 q1
noncomputable def plB (S : Nat → Nat → Bool) (x0 y0 x y : Nat) : Bool := @decide (plP S x0 y0 x y) (Classical.propDecidable _)
theorem plB_t {S : Nat → Nat → Bool} {x0 y0 x y : Nat} : plB S x0 y0 x y = true ↔ plP S x0 y0 x y := @decide_eq_true_iff _ (Classical.propDecidable _)
def wlP (S : Nat → Nat → Bool) (x0 y0 x y : Nat) : Prop := S x y = false ∧ ∃ x' y', x' < 32 ∧ y' < 32 ∧ adj4 x' y' x y ∧ plP S x0 y0 x' y'
noncomputable def wlB (S : Nat → Nat → Bool) (x0 y0 x y : Nat) : Bool := @decide (wlP S x0 y0 x y) (Classical.propDecidable _)
theorem wlB_t {S : Nat → Nat → Bool} {x0 y0 x y : Nat} : wlB S x0 y0 x y = true ↔ wlP S x0 y0 x y := @decide_eq_true_iff _ (Classical.propDecidable _)
theorem bool_iff {p q : Bool} (h : p = true ↔ q = true) : p = q := by
  cases p <;> cases q <;> simp_all
noncomputable def poA (W : aW) (x y w : Nat) : Nat := if w = 0 then cnt (fun k => plB (swB W) x y (k % 32) (k / 32)) 1024 else if w = 1 then cnt (fun k => wlB (swB W) x y (k % 32) (k / 32)) 1024 else cnt (fun k => wlB (swB W) x y (k % 32) (k / 32) && !slB W true (k % 32) (k / 32)) 1024
