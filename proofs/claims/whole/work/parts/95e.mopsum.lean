/-! an open bracket above base (model) -/
theorem stV_get {h : mH} : ∀ (V : List (Nat × Nat)) (i : Nat), stV h V → i < V.length → mI h 59 (V.length - 1 - i) = nI (1048576 * (V.getD i (0, 0)).1 + (V.getD i (0, 0)).2)
  | [], i, _, hi => absurd hi (by simp)
  | c :: V, 0, w, _ => by
    have := w.1
    rw [show (c :: V).length - 1 - 0 = V.length by simp]
    exact this
  | c :: V, i + 1, w, hi => by
    have hi' : i < V.length := by simpa using hi
    rw [show (c :: V).length - 1 - (i + 1) = V.length - 1 - i by simp; omega]
    exact stV_get V i w.2 hi'
/-- no open bracket among the first N of what waits (its top first) -/
def noOp (V : List (Nat × Nat)) (N : Nat) : Prop := ∀ i, i < N → (V.getD i (0, 0)).1 ≠ 14
section
variable {G : mG} {d : Nat} {b : Nat × Nat} {h : mH} {Q : Option mV → mH → Prop}
theorem m_hasOpenSum {t : Nat → Nat} {n p o N B : Nat} {C V : List (Nat × Nat)} (R : mdS h t n p o C V) (hN : V.length = N + B) (hV : V.length ≤ 180) (hb : ∀ i, i < V.length → (V.getD i (0, 0)).1 ≤ 14 ∧ (V.getD i (0, 0)).2 < 1048576) (K0 : noOp V N → Q (some (.inl 0)) h) (K1 : ¬ noOp V N → Q (some (.inl 1)) h) : mC G kX12_hasOpenSum d b [.inr (some 47), .inl (nI B)] h Q := by
  have R0 := R
  obtain ⟨hS, -, -, -, -, -, e18, hw⟩ := R
  refine qX12_hasOpenSum _ hS ?_
  have lp : ∀ (r k : Nat), k + r = N → (∀ i, N - k ≤ i → i < N → (V.getD i (0, 0)).1 ≠ 14) → mW G kX12_hasOpenSum d b 2 [some (.inr (some 47)), none, some (.inl (nI (B + k)))] [] h Q := by
    intro r
    induction r with
    | zero =>
      intro k hk no
      refine qX12_hasOpenSum_2 _ hS ?_
      rw [e18, nI_leI (by omega) (by omega)]
      exact ⟨fun _ => K0 (fun i hi => no i (by omega) hi), fun z => by omega⟩
    | succ r ih =>
      intro k hk no
      have hi : N - 1 - k < V.length := by omega
      have g := stV_get V (N - 1 - k) hw hi
      rw [show V.length - 1 - (N - 1 - k) = B + k by omega] at g
      obtain ⟨b1, b2⟩ := hb (N - 1 - k) hi
      refine qX12_hasOpenSum_2 _ hS ?_
      rw [e18, nI_leI (by omega) (by omega), nI_clamp (show B + k < 2 ^ 31 by omega), g, show (1048576 : Int32) = nI 1048576 from rfl, ii_div (by omega) (by omega) (by omega), show (1048576 * (V.getD (N - 1 - k) (0, 0)).1 + (V.getD (N - 1 - k) (0, 0)).2) / 1048576 = (V.getD (N - 1 - k) (0, 0)).1 by omega, show (14 : Int32) = nI 14 from rfl, nI_eq (by omega) (by omega), nI_1]
      refine ⟨fun z => by omega, fun _ => ⟨vp_in_nI (by omega) (by omega), fun z => ih (k + 1) (by omega) (fun i h1 h2 => ?_), fun z => K1 (fun u => u (N - 1 - k) (by omega) z)⟩⟩
      by_cases q : i = N - 1 - k
      · rw [q]; exact z
      · exact no i (by omega) h2
  exact lp N 0 (by omega) (fun i h1 h2 => by omega)
end
