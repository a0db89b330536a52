/-! what is accepted -/
theorem f_in_eq (v lo hi : Int32) : f_X12_in v lo hi = f_X11_within v lo hi := rfl
theorem f_cell_eq (x y : Int32) : f_X12_isCell x y = f_X11_inGrid x y := rfl
theorem f_wi {v lo hi : Int32} : f_X11_within v lo hi = 0 ↔ ¬ (lo ≤ v ∧ v ≤ hi) := by
  unfold f_X11_within
  by_cases h1 : v < lo
  · rw [if_pos h1]
    exact ⟨fun _ z => absurd z.1 (Int32.not_le.mpr h1), fun _ => rfl⟩
  · rw [if_neg h1]
    by_cases h2 : hi < v
    · rw [if_pos h2]
      exact ⟨fun _ z => absurd z.2 (Int32.not_le.mpr h2), fun _ => rfl⟩
    · rw [if_neg h2]
      exact ⟨fun z => absurd z (by decide), fun z => absurd ⟨Int32.not_lt.mp h1, Int32.not_lt.mp h2⟩ z⟩
theorem f_wiZ {v : Int32} (a b : Int) (ha : inI a) (hb : inI b) : f_X11_within v (iI a) (iI b) = 0 ↔ ¬ (a ≤ v.toInt ∧ v.toInt ≤ b) := by
  rw [f_wi, Int32.le_iff_toInt_le, Int32.le_iff_toInt_le, ii_toInt ha, ii_toInt hb]
theorem f_grid {x y : Int32} : f_X11_inGrid x y = 0 ↔ ¬ ((0 ≤ x.toInt ∧ x.toInt < 32) ∧ (0 ≤ y.toInt ∧ y.toInt < 32)) := by
  unfold f_X11_inGrid
  have e0 : ∀ z : Int32, z < 0 ↔ z.toInt < 0 := fun z => by rw [Int32.lt_iff_toInt_lt]; rfl
  have e1 : ∀ z : Int32, 32 ≤ z ↔ 32 ≤ z.toInt := fun z => by rw [Int32.le_iff_toInt_le]; rfl
  simp only [e0, e1]
  by_cases h1 : x.toInt < 0
  · rw [if_pos h1]; exact ⟨fun _ z => by omega, fun _ => rfl⟩
  · rw [if_neg h1]
    by_cases h2 : 32 ≤ x.toInt
    · rw [if_pos h2]; exact ⟨fun _ z => by omega, fun _ => rfl⟩
    · rw [if_neg h2]
      by_cases h3 : y.toInt < 0
      · rw [if_pos h3]; exact ⟨fun _ z => by omega, fun _ => rfl⟩
      · rw [if_neg h3]
        by_cases h4 : 32 ≤ y.toInt
        · rw [if_pos h4]; exact ⟨fun _ z => by omega, fun _ => rfl⟩
        · rw [if_neg h4]; exact ⟨fun z => absurd z (by decide), fun z => absurd ⟨⟨by omega, by omega⟩, by omega, by omega⟩ z⟩
theorem f_dir {q : Int32} : f_X12_isDirection q = f_X11_within q 0 3 := by
  unfold f_X12_isDirection f_X11_within
  have e : (4 ≤ q) ↔ (3 < q) := by rw [Int32.le_iff_toInt_le, Int32.lt_iff_toInt_lt]; show (4 : Int) ≤ _ ↔ (3 : Int) < _; omega
  simp only [e]
theorem f_air {hr wi : Int32} : f_X12_isAir hr wi = 0 ↔ (f_X11_within hr 0 23 = 0 ∨ f_X11_within wi 0 3 = 0) := by
  unfold f_X12_isAir f_X11_within
  have e1 : (24 ≤ hr) ↔ (23 < hr) := by rw [Int32.le_iff_toInt_le, Int32.lt_iff_toInt_lt]; show (24 : Int) ≤ _ ↔ (23 : Int) < _; omega
  have e2 : (4 ≤ wi) ↔ (3 < wi) := by rw [Int32.le_iff_toInt_le, Int32.lt_iff_toInt_lt]; show (4 : Int) ≤ _ ↔ (3 : Int) < _; omega
  simp only [e1, e2]
  by_cases h1 : hr < 0
  · simp [h1]
  · by_cases h2 : 23 < hr
    · simp [h1, h2]
    · by_cases h3 : wi < 0
      · simp [h1, h2, h3]
      · by_cases h4 : 3 < wi
        · simp [h1, h2, h3, h4]
        · simp [h1, h2, h3, h4]
/-! sounders -/
def okSo (v1 v2 v3 v4 : Int32) : Prop := ¬ f_X11_inGrid v1 v2 = 0 ∧ ¬ f_X11_within v3 0 3 = 0 ∧ ¬ f_X11_within v4 0 99 = 0
def hSoX (h : mH) (n : Nat) (v1 v2 v3 v4 : Int32) : mH := mSI (mSI (mSI (mSI (mSI h 12 n v1) 13 n v2) 14 n v3) 15 n v4) 11 4 (nI (n + 1))
def hSoM (h : mH) (n : Nat) (v1 v2 v3 v4 : Int32) : mH := mSI (mSI (mSI (mSI (mSI h 53 n v1) 54 n v2) 55 n v3) 56 n v4) 47 6 (nI (n + 1))
section
variable {G : mG} {d : Nat} {b : Nat × Nat} {h : mH} {Q : Option mV → mH → Prop}
theorem c2_addSounder (v1 v2 v3 v4 : Int32) (n : Nat) (hS : mSk h) (hn : mI h 11 4 = nI n) (h6 : n < 6) (K : Q none (hSoX h n v1 v2 v3 v4)) : mC G kX2_addSounder d b [.inr (some 11), .inl v1, .inl v2, .inl v3, .inl v4] h Q := by
  have hin := vp_in_nI h6 (N := 6) (by omega)
  have hcl := nI_clamp (n := n) (by omega)
  refine qX2_addSounder v1 v2 v3 v4 hS ⟨fun z => ?_, fun _ => ⟨by rw [hn]; exact hin, fun h2 e2 => ?_⟩⟩
  · rw [hn, show (6 : Int32) = nI 6 from rfl, nI_leI (by omega) (by omega)] at z
    omega
  · have n2 : mI h2 11 4 = nI n := by rw [e2, mI_SI_a (by decide)]; exact hn
    refine ⟨by rw [n2]; exact hin, fun h4 e4 => ?_⟩
    have n4 : mI h4 11 4 = nI n := by rw [e4, mI_SI_a (by decide)]; exact n2
    refine ⟨by rw [n4]; exact hin, fun h6 e6 => ?_⟩
    have n6 : mI h6 11 4 = nI n := by rw [e6, mI_SI_a (by decide)]; exact n4
    refine ⟨by rw [n6]; exact hin, fun h8 e8 h9 e9 => ?_⟩
    have n8 : mI h8 11 4 = nI n := by rw [e8, mI_SI_a (by decide)]; exact n6
    rw [e9, n8, e8, n6, e6, n4, e4, n2, e2, hn, hcl, nI_1]
    exact K
theorem c11_sounder (v1 v2 v3 v4 : Int32) (n : Nat) (hS : mSk h) (hn : mI h 11 4 = nI n) (h6 : n ≤ 6) (K1 : (¬ okSo v1 v2 v3 v4 ∨ n = 6) → Q (some (.inl (-1))) h) (K2 : okSo v1 v2 v3 v4 → n < 6 → Q (some (.inl (nI n))) (hSoX h n v1 v2 v3 v4)) : mC G kX11_sounder (d + 1) b [.inr (some 8), .inl v1, .inl v2, .inl v3, .inl v4] h Q := by
  refine qX11_sounder v1 v2 v3 v4 hS (fun w hw => ⟨fun z => K1 (Or.inl fun ok => ?_), fun z => ⟨fun y => ?_, fun y => K1 (Or.inr ?_)⟩⟩)
  · rw [if_neg ok.1, if_neg ok.2.1, if_neg ok.2.2] at hw
    rw [hw] at z
    exact absurd z (by decide)
  · have ok : okSo v1 v2 v3 v4 := by
      refine ⟨fun q => z ?_, fun q => z ?_, fun q => z ?_⟩
      · rw [hw, if_pos q]
      · rw [hw, if_pos q]; split <;> rfl
      · rw [hw, if_pos q]; split <;> first | rfl | (split <;> rfl)
    have hl : n < 6 := by
      rw [hn, show (6 : Int32) = nI 6 from rfl, nI_ltI (by omega) (by omega)] at y
      exact y
    refine c2_addSounder v1 v2 v3 v4 n hS hn hl ⟨rfl, sk_SI (sk_SI (sk_SI (sk_SI (sk_SI hS)))), ?_⟩
    have e : mI (hSoX h n v1 v2 v3 v4) 11 4 = nI (n + 1) := mI_SI_s
    rw [e, show nI (n + 1) - 1 = nI n from nI_pred n]
    exact K2 ok hl
  · rw [hn, show (6 : Int32) = nI 6 from rfl, nI_ltI (by omega) (by omega)] at y
    omega
theorem m_sounder (v1 v2 v3 v4 : Int32) (n : Nat) (hS : mSk h) (hn : mI h 47 6 = nI n) (h6 : n ≤ 6) (K1 : (¬ okSo v1 v2 v3 v4 ∨ n = 6) → Q (some (.inl (-1))) h) (K2 : okSo v1 v2 v3 v4 → n < 6 → Q (some (.inl (nI n))) (hSoM h n v1 v2 v3 v4)) : mC G kX12_sounder (d + 1) b [.inr (some 47), .inl v1, .inl v2, .inl v3, .inl v4] h Q := by
  refine qX12_sounder v1 v2 v3 v4 hS ⟨fun z => K1 (Or.inl fun ok => ok.1 z), fun z1 => ⟨fun z => K1 (Or.inl fun ok => ok.2.1 z), fun z2 => ⟨fun z => K1 (Or.inl fun ok => ok.2.2 z), fun z3 => ⟨fun y => ?_, fun y => K1 (Or.inr ?_)⟩⟩⟩⟩
  · have hl : n < 6 := by
      rw [hn, show (6 : Int32) = nI 6 from rfl, nI_eq (by omega) (by omega)] at y
      omega
    have hin := vp_in_nI hl (N := 6) (by omega)
    have hcl := nI_clamp (n := n) (by omega)
    refine ⟨by rw [hn]; exact hin, fun h2 e2 => ?_⟩
    have n2 : mI h2 47 6 = nI n := by rw [e2, mI_SI_a (by decide)]; exact hn
    refine ⟨by rw [n2]; exact hin, fun h4 e4 => ?_⟩
    have n4 : mI h4 47 6 = nI n := by rw [e4, mI_SI_a (by decide)]; exact n2
    refine ⟨by rw [n4]; exact hin, fun h6 e6 => ?_⟩
    have n6 : mI h6 47 6 = nI n := by rw [e6, mI_SI_a (by decide)]; exact n4
    refine ⟨by rw [n6]; exact hin, fun h8 e8 h9 e9 => ?_⟩
    have n8 : mI h8 47 6 = nI n := by rw [e8, mI_SI_a (by decide)]; exact n6
    have e : h9 = hSoM h n v1 v2 v3 v4 := by rw [e9, n8, e8, n6, e6, n4, e4, n2, e2, hn, hcl, nI_1]; rfl
    rw [e, show mI (hSoM h n v1 v2 v3 v4) 47 6 = nI (n + 1) from mI_SI_s, show nI (n + 1) - 1 = nI n from nI_pred n]
    exact K2 ⟨z1, z2, z3⟩ hl
  · rw [hn, show (6 : Int32) = nI 6 from rfl, nI_eq (by omega) (by omega)] at y
    exact y
/-! choices -/
def okCh (v1 v2 v3 v4 : Int32) : Prop := ¬ f_X11_within v1 0 5 = 0 ∧ ¬ f_X11_within v2 (-9) 9 = 0 ∧ ¬ f_X11_within v3 (-9) 9 = 0 ∧ ¬ f_X11_within v4 0 3 = 0
theorem okCh_n {v1 v2 v3 v4 : Int32} (h : okCh v1 v2 v3 v4) : ∃ n : Nat, n < 6 ∧ v1 = nI n := by
  have h1 := h.1
  rw [show f_X11_within v1 0 5 = f_X11_within v1 (iI 0) (iI 5) from rfl, f_wiZ 0 5 ⟨by omega, by omega⟩ ⟨by omega, by omega⟩] at h1
  have h2 : 0 ≤ v1.toInt ∧ v1.toInt ≤ 5 := Classical.byContradiction h1
  exact nI_ex h2.1 (n := 6) (by omega) (by omega)
def hChX (h : mH) (n : Nat) (v2 v3 v4 : Int32) : mH := mSI (mSI (mSI (mSI (mSI h 42 n v2) 43 n v3) 44 n v4) 41 3 (mI h 41 3 ||| m_shl 1 (nI n))) 8 7 (mI h 8 7 + 1)
def hChM (h : mH) (n : Nat) (v2 v3 v4 : Int32) : mH := mSI (mSI (mSI (mSI h 81 n v2) 82 n v3) 83 n v4) 47 52 (mI h 47 52 ||| m_shl 1 (nI n))
theorem c11_choice (v1 v2 v3 v4 : Int32) (hS : mSk h) (K1 : ¬ okCh v1 v2 v3 v4 → Q (some (.inl 0)) h) (K2 : okCh v1 v2 v3 v4 → ∀ n, n < 6 → v1 = nI n → Q (some (.inl 1)) (hChX h n v2 v3 v4)) : mC G kX11_choice (d + 1) b [.inr (some 8), .inl v1, .inl v2, .inl v3, .inl v4] h Q := by
  refine qX11_choice v1 v2 v3 v4 hS (fun w hw => ⟨fun z => K1 (fun ok => ok.1 z), fun z1 => ⟨fun z => K1 (fun ok => ?_), fun z2 => ⟨fun z4 => ?_, fun z => K1 (fun ok => ok.2.2.2 z)⟩⟩⟩)
  · rw [if_neg ok.2.1, if_neg ok.2.2.1] at hw
    rw [hw] at z
    exact absurd z (by decide)
  · have ok : okCh v1 v2 v3 v4 := by
      refine ⟨z1, fun q => z2 ?_, fun q => z2 ?_, z4⟩
      · rw [hw, if_pos q]
      · rw [hw, if_pos q]; split <;> rfl
    obtain ⟨n, hn, rfl⟩ := okCh_n ok
    have hin := vp_in_nI hn (N := 6) (by omega)
    have hcl := nI_clamp (n := n) (by omega)
    refine qX8_tell _ v2 v3 v4 hS ⟨hin, fun h2 e2 => ⟨hin, fun h4 e4 => ⟨hin, fun h6 e6 h7 e7 => ?_⟩⟩⟩
    have e : h7 = mSI (mSI (mSI (mSI h 42 n v2) 43 n v3) 44 n v4) 41 3 (mI h 41 3 ||| m_shl 1 (nI n)) := by
      rw [e7, e6, e4, e2, hcl, mI_SI_a (by decide), mI_SI_a (by decide), mI_SI_a (by decide)]
    refine ⟨rfl, by rw [e]; exact sk_SI (sk_SI (sk_SI (sk_SI hS))), fun h3 e3 => ?_⟩
    have := K2 ok n hn rfl
    unfold hChX at this
    rw [e3, e, mI_SI_a (by decide), mI_SI_a (by decide), mI_SI_a (by decide), mI_SI_a (by decide)]
    exact this
theorem m_choice (v1 v2 v3 v4 : Int32) (hS : mSk h) (K1 : ¬ okCh v1 v2 v3 v4 → Q (some (.inl 0)) h) (K2 : okCh v1 v2 v3 v4 → ∀ n, n < 6 → v1 = nI n → Q (some (.inl 1)) (hChM h n v2 v3 v4)) : mC G kX12_choice (d + 1) b [.inr (some 47), .inl v1, .inl v2, .inl v3, .inl v4] h Q := by
  refine qX12_choice v1 v2 v3 v4 hS ⟨fun z => K1 (fun ok => ok.1 z), fun z1 => ⟨fun z => K1 (fun ok => ok.2.1 z), fun z2 => ⟨fun z => K1 (fun ok => ok.2.2.1 z), fun z3 => ⟨fun z4 => ?_, fun z => K1 (fun ok => ok.2.2.2 (by rw [← f_dir]; exact z))⟩⟩⟩⟩
  have ok : okCh v1 v2 v3 v4 := ⟨z1, z2, z3, by rw [← f_dir]; exact z4⟩
  obtain ⟨n, hn, rfl⟩ := okCh_n ok
  have hin := vp_in_nI hn (N := 6) (by omega)
  have hcl := nI_clamp (n := n) (by omega)
  refine ⟨hin, fun h2 e2 => ⟨hin, fun h4 e4 => ⟨hin, fun h6 e6 h7 e7 => ?_⟩⟩⟩
  have e : h7 = hChM h n v2 v3 v4 := by
    unfold hChM
    rw [e7, e6, e4, e2, hcl, mI_SI_a (by decide), mI_SI_a (by decide), mI_SI_a (by decide)]
  rw [e]
  exact K2 ok n hn rfl
/-! wrong, box, back of the model -/
theorem m_wrong (v1 : Int32) (hS : mSk h) (K1 : f_X11_within v1 0 3 = 0 → Q (some (.inl 0)) h) (K2 : ¬ f_X11_within v1 0 3 = 0 → Q (some (.inl 1)) (mSI h 47 34 v1)) : mC G kX12_wrong (d + 1) b [.inr (some 47), .inl v1] h Q :=
  qX12_wrong v1 hS ⟨fun z h1 e1 => by rw [e1]; exact K2 z, K1⟩
def okBo (v1 v2 v3 v4 : Int32) : Prop := ¬ f_X11_inGrid v1 v2 = 0 ∧ ¬ f_X11_inGrid v3 v4 = 0 ∧ ¬ v3 < v1 ∧ v2 ≤ v4
theorem m_box (v1 v2 v3 v4 : Int32) (hS : mSk h) (K1 : ¬ okBo v1 v2 v3 v4 → Q (some (.inl 0)) h) (K2 : okBo v1 v2 v3 v4 → Q (some (.inl 1)) (mSI (mSI (mSI (mSI h 47 35 v1) 47 36 v2) 47 37 v3) 47 38 v4)) : mC G kX12_box (d + 1) b [.inr (some 47), .inl v1, .inl v2, .inl v3, .inl v4] h Q :=
  qX12_box v1 v2 v3 v4 hS ⟨fun z => K1 (fun ok => ok.1 z), fun z1 => ⟨fun z => K1 (fun ok => ok.2.1 z), fun z2 => ⟨fun z => K1 (fun ok => ok.2.2.1 z), fun z3 => ⟨fun z4 h1 e1 h2 e2 h3 e3 h4 e4 => by rw [e4, e3, e2, e1]; exact K2 ⟨z1, z2, z3, z4⟩, fun z => K1 (fun ok => z ok.2.2.2)⟩⟩⟩⟩
theorem m_back (n : Nat) (hS : mSk h) (hn : mI h 47 33 = nI n) (h12 : n ≤ 12) (K1 : n = 0 → Q (some (.inl (-1))) h) (K2 : ∀ m, n = m + 1 → Q (some (.inl (nI m))) (mSI h 47 33 (nI m))) : mC G kX12_back d b [.inr (some 47)] h Q := by
  refine qX12_back hS ⟨fun z h1 e1 => ?_, fun z => K1 ?_⟩
  · cases n with
    | zero => exact absurd hn z
    | succ m =>
      have := K2 m rfl
      rw [e1, mI_SI_s, hn, show nI (m + 1) - 1 = nI m from nI_pred m]
      exact this
  · rw [hn, show (0 : Int32) = nI 0 from rfl, nI_eq (by omega) (by omega)] at z
    exact z
end
