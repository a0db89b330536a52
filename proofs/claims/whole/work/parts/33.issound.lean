/-! which number is a sounder's -/
theorem rng_cases (v : Int32) {n : Nat} (hn : n < 1000) : (v < 0 ∧ ¬ (0 ≤ v.toInt ∧ v.toInt < n)) ∨ (¬ v < 0 ∧ nI n ≤ v ∧ ¬ (0 ≤ v.toInt ∧ v.toInt < n)) ∨ (¬ v < 0 ∧ ¬ nI n ≤ v ∧ ∃ c, c < n ∧ v = nI c) := by
  have h0 : v < 0 ↔ v.toInt < 0 := by rw [Int32.lt_iff_toInt_lt, show (0 : Int32).toInt = 0 by decide]
  have h1 : nI n ≤ v ↔ (n : Int) ≤ v.toInt := by rw [Int32.le_iff_toInt_le, nI_toI (by omega)]
  by_cases a : v < 0
  · exact Or.inl ⟨a, fun z => by have := h0.mp a; omega⟩
  · by_cases c : nI n ≤ v
    · exact Or.inr (Or.inl ⟨a, c, fun z => by have := h1.mp c; omega⟩)
    · have g1 : 0 ≤ v.toInt := by
        apply Classical.byContradiction; intro t; exact a (h0.mpr (by omega))
      have g2 : v.toInt < n := by
        apply Classical.byContradiction; intro t; exact c (h1.mpr (by omega))
      exact Or.inr (Or.inr ⟨a, c, nI_ex (n := n) g1 g2 (by omega)⟩)
section
variable {G : mG} {d : Nat} {b : Nat × Nat} {h : mH} {Q : Option mV → mH → Prop}
theorem c2_hasSounder (v1 : Int32) {n : Nat} (hS : mSk h) (hn : mI h 11 4 = nI n) (h6 : n ≤ 6) (K1 : ¬ (0 ≤ v1.toInt ∧ v1.toInt < n) → Q (some (.inl 0)) h) (K2 : ∀ c, c < n → v1 = nI c → Q (some (.inl 1)) h) : mC G kX2_hasSounder d b [.inr (some 11), .inl v1] h Q := by
  rcases rng_cases v1 (n := n) (by omega) with ⟨a, g⟩ | ⟨a, c, g⟩ | ⟨a, c, m, hm, e⟩
  · exact qX2_hasSounder _ hS ⟨fun _ => K1 g, fun z => absurd a z⟩
  · exact qX2_hasSounder _ hS ⟨fun _ => K1 g, fun _ w ew => by rw [ew, hn, if_pos c]; exact K1 g⟩
  · exact qX2_hasSounder _ hS ⟨fun z => absurd z a, fun _ w ew => by rw [ew, hn, if_neg c]; exact K2 m hm e⟩
theorem m_isSounder (v1 : Int32) {n : Nat} (hS : mSk h) (hn : mI h 47 6 = nI n) (h6 : n ≤ 6) (K1 : ¬ (0 ≤ v1.toInt ∧ v1.toInt < n) → Q (some (.inl 0)) h) (K2 : ∀ c, c < n → v1 = nI c → Q (some (.inl 1)) h) : mC G kX12_isSounder d b [.inr (some 47), .inl v1] h Q := by
  rcases rng_cases v1 (n := n) (by omega) with ⟨a, g⟩ | ⟨a, c, g⟩ | ⟨a, c, m, hm, e⟩
  · exact qX12_isSounder _ hS ⟨fun _ => K1 g, fun z => absurd a z⟩
  · exact qX12_isSounder _ hS ⟨fun _ => K1 g, fun _ w ew => by rw [ew, hn, if_pos c]; exact K1 g⟩
  · exact qX12_isSounder _ hS ⟨fun z => absurd z a, fun _ w ew => by rw [ew, hn, if_neg c]; exact K2 m hm e⟩
end
