/-! a bad line makes all later ones bad -/
theorem mn_mono {n : Nat} {O : Nat → Nat → Nat} (hO : okO2 n O) (hn : n ≤ 12) (J : Nat → aLi) (B : aBx) {i w : Nat} (hi : i + 1 < n) (hw : w < FARn) (h : mnN (foV O J B (i + 1)) 1024 ≤ w) : mnN (foV O J B i) 1024 ≤ w := by
  obtain ⟨-, -, a3⟩ := mnN_all (fun k _ => (foV_b hO hn J B (i + 1) k hi).1) 1024 (Nat.le_refl _)
  obtain ⟨-, b2, -⟩ := mnN_all (fun k _ => (foV_b hO hn J B i k (by omega)).1) 1024 (Nat.le_refl _)
  rcases a3 with e | ⟨k, hk, -, e⟩
  · omega
  · rw [foV_pr, prV_s] at e
    have h1 := (sm_le hw).mp (by rw [← e]; exact h)
    obtain ⟨-, -, l3⟩ := lar_is (fun k _ => (foV_b hO hn J B i k (by omega)).1) ((k % 32 : Nat) - jX (J (i + 1))) ((k / 32 : Nat) - jY (J (i + 1))) (jD (J (i + 1)))
    rcases l3 with q | ⟨k', hk', -, q⟩
    · omega
    · have := b2 k' hk' hk'
      omega
theorem fit_all {h : mH} {W : aW} {I : Nat → Nat} (hW : cWo h W I) (c : Nat) : (∀ i, i < wl W → mnN (wF W c i) 1024 ≤ ws W) ↔ wFit W c = true := by
  have hl12 := hW.2.2.2.2.2.2.1.2.1
  have hs3 := hW.2.2.2.2.2.2.2.1.2
  unfold wFit
  rw [decide_eq_true_iff]
  constructor
  · intro z
    by_cases e : wl W = 0
    · exact Or.inl e
    · exact Or.inr (z (wl W - 1) (by omega))
  · intro z i hi
    have key : ∀ r, r + 1 ≤ wl W → mnN (wF W c (wl W - 1 - r)) 1024 ≤ ws W := by
      intro r
      induction r with
      | zero => intro _; rcases z with z | z; omega; exact z
      | succ r ih =>
        intro hr
        have h1 := ih (by omega)
        rw [show wl W - 1 - r = wl W - 1 - (r + 1) + 1 by omega] at h1
        exact mn_mono (wO_okX hW c) hl12 (wJ W) (wB W) (by omega) (by unfold FARn; omega) h1
    have := key (wl W - 1 - i) (by omega)
    rw [show wl W - 1 - (wl W - 1 - i) = i by omega] at this
    exact this
