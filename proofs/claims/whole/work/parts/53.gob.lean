/-! from which cells the later lines can be gone -/
noncomputable def gbV (W : aW) (c : Nat) : Nat → Nat → Nat
  | 0, _ => 0
  | r + 1, k => lar (fun k' => if wF W c (wl W - 1 - r) k' ≤ ws W then sm (gbV W c r k') (wO W c (wl W - 1 - r) k') else FARn) ((k % 32 : Nat) + jX (wJ W (wl W - 1 - r))) ((k / 32 : Nat) + jY (wJ W (wl W - 1 - r))) (jD (wJ W (wl W - 1 - r)))
noncomputable def gbA (W : aW) (c r k : Nat) : Nat := if wF W c (wl W - 1 - r) k ≤ ws W then sm (gbV W c r k) (wO W c (wl W - 1 - r) k) else FARn
theorem gbV_0 (W : aW) (c k : Nat) : gbV W c 0 k = 0 := rfl
theorem gbV_s (W : aW) (c r k : Nat) : gbV W c (r + 1) k = lar (gbA W c r) ((k % 32 : Nat) + jX (wJ W (wl W - 1 - r))) ((k / 32 : Nat) + jY (wJ W (wl W - 1 - r))) (jD (wJ W (wl W - 1 - r))) := rfl
noncomputable def thV (W : aW) (c : Nat) : Nat → Nat → Nat
  | 0, _ => 0
  | r + 1, k => lar (beV (wO W c) (wJ W) (wl W) r) ((k % 32 : Nat) + jX (wJ W (wl W - 1 - r))) ((k / 32 : Nat) + jY (wJ W (wl W - 1 - r))) (jD (wJ W (wl W - 1 - r)))
theorem thV_0 (W : aW) (c k : Nat) : thV W c 0 k = 0 := rfl
theorem thV_s (W : aW) (c r k : Nat) : thV W c (r + 1) k = lar (beV (wO W c) (wJ W) (wl W) r) ((k % 32 : Nat) + jX (wJ W (wl W - 1 - r))) ((k / 32 : Nat) + jY (wJ W (wl W - 1 - r))) (jD (wJ W (wl W - 1 - r))) := rfl
theorem beV_th (W : aW) (c : Nat) : ∀ r k, beV (wO W c) (wJ W) (wl W) r k = sm (thV W c r k) (wO W c (wl W - 1 - r) k)
  | 0, k => rfl
  | r + 1, k => by
    rw [thV_s, show wl W - 1 - (r + 1) = wl W - 2 - r by omega]; rfl
theorem gbV_b {W : aW} {c : Nat} (hO : okO2 (wl W) (wO W c)) (hn : wl W ≤ 12) : ∀ r, r ≤ wl W → ∀ k, gbV W c r k ≤ FARn ∧ (gbV W c r k < FARn → gbV W c r k ≤ 6 * r) := by
  intro r
  induction r with
  | zero => intro _ k; rw [gbV_0]; exact ⟨Nat.zero_le _, fun _ => Nat.le_refl _⟩
  | succ r ih =>
    intro hr k
    rw [gbV_s]
    refine lar_b (M := 6 * (r + 1)) (fun k' => ?_) _ _ _
    unfold gbA
    split
    · have h1 := sm_b (M := 6 * r) (ih (by omega) k') (hO (wl W - 1 - r) k' (by omega)) (by omega)
      exact ⟨h1.1, fun z => by have := h1.2 z; omega⟩
    · exact ⟨Nat.le_refl _, fun z => absurd z (Nat.lt_irrefl _)⟩
theorem gbA_b {W : aW} {c : Nat} (hO : okO2 (wl W) (wO W c)) (hn : wl W ≤ 12) {r : Nat} (hr : r < wl W) (k : Nat) : gbA W c r k ≤ FARn := by
  unfold gbA
  split
  · exact (sm_b (gbV_b hO hn r (by omega) k) (hO _ k (by omega)) (by omega)).1
  · exact Nat.le_refl _
theorem thV_b {W : aW} {c : Nat} (hO : okO2 (wl W) (wO W c)) (hn : wl W ≤ 12) : ∀ r, r < wl W → ∀ k, thV W c r k ≤ FARn ∧ (thV W c r k < FARn → thV W c r k ≤ 6 * r)
  | 0, _, k => by rw [thV_0]; exact ⟨Nat.zero_le _, fun _ => Nat.le_refl _⟩
  | r + 1, hr, k => by
    rw [thV_s]
    exact lar_b (M := 6 * (r + 1)) (fun k' => beV_b hO hn (wJ W) r k' (by omega)) _ _ _
theorem lar_mono {V V' : Nat → Nat} (h1 : ∀ k, k < 1024 → V k ≤ V' k) (h2 : ∀ k, k < 1024 → V' k ≤ FARn) (x y : Int) (d : Nat) : lar V x y d ≤ lar V' x y d := by
  obtain ⟨a1, a2, a3⟩ := lar_is (fun k hk => Nat.le_trans (h1 k hk) (h2 k hk)) x y d
  obtain ⟨b1, b2, b3⟩ := lar_is h2 x y d
  rcases b3 with e | ⟨k, hk, hp, e⟩
  · omega
  · have := a2 k hk hp
    have := h1 k hk
    omega
theorem sm_mono {a a' c : Nat} (h : a ≤ a') (hc : sm a c ≤ FARn) : sm a c ≤ sm a' c := by
  unfold sm at *
  by_cases z : FARn ≤ a'
  · rw [if_pos z]; exact hc
  · rw [if_neg z, if_neg (by omega)]
    by_cases z2 : c < FARn
    · rw [if_pos z2, if_pos z2]; omega
    · rw [if_neg z2, if_neg z2]; exact Nat.le_refl _
theorem th_gb {W : aW} {c : Nat} (hO : okO2 (wl W) (wO W c)) (hn : wl W ≤ 12) : ∀ r, r < wl W → ∀ k, thV W c r k ≤ gbV W c r k
  | 0, _, k => by rw [thV_0]; exact Nat.zero_le _
  | r + 1, hr, k => by
    rw [thV_s, gbV_s]
    refine lar_mono (fun k' _ => ?_) (fun k' _ => gbA_b hO hn (by omega) k') _ _ _
    rw [beV_th]
    have hb := sm_b (thV_b hO hn r (by omega) k') (hO (wl W - 1 - r) k' (by omega)) (by omega)
    unfold gbA
    split
    · exact sm_mono (th_gb hO hn r (by omega) k') hb.1
    · exact hb.1
theorem sm_lt {a c w : Nat} (h : sm a c ≤ w) (hw : w < FARn) : sm a c = a + c ∧ a < FARn ∧ c < FARn := by
  have := (sm_le hw).mp h
  refine ⟨?_, this.1, this.2.1⟩
  unfold sm
  rw [if_neg (by omega), if_pos this.2.1]
theorem gb_th {W : aW} {c : Nat} (hO : okO2 (wl W) (wO W c)) (hn : wl W ≤ 12) (hs : ws W ≤ 3) : ∀ r, r < wl W → ∀ k, k < 1024 → wF W c (wl W - 1 - r) k + thV W c r k ≤ ws W → gbV W c r k ≤ thV W c r k := by
  intro r
  induction r with
  | zero => intro _ k _ _; rw [gbV_0]; exact Nat.zero_le _
  | succ r ih0 =>
    intro hr k hk hle
    have hF : ws W < FARn := by unfold FARn; omega
    have e3 : thV W c (r + 1) k ≤ ws W := by omega
    rw [thV_s] at e3 hle ⊢
    obtain ⟨-, -, l3⟩ := lar_is (V := beV (wO W c) (wJ W) (wl W) r) (fun k' _ => (beV_b hO hn (wJ W) r k' (by omega)).1) ((k % 32 : Nat) + jX (wJ W (wl W - 1 - r))) ((k / 32 : Nat) + jY (wJ W (wl W - 1 - r))) (jD (wJ W (wl W - 1 - r)))
    rcases l3 with q | ⟨k', hk', hp, q⟩
    · omega
    · rw [q, beV_th] at e3 hle
      rw [q, beV_th]
      obtain ⟨g1, g2, g3⟩ := sm_lt e3 hF
      rw [g1] at hle e3 ⊢
      obtain ⟨j, hj⟩ : ∃ j, j = wl W - 1 - (r + 1) := ⟨_, rfl⟩
      have ej : wl W - 1 - r = j + 1 := by omega
      rw [← hj] at hle
      rw [ej] at hle hp g1 g3 e3 ⊢
      -- the way to k' by k
      obtain ⟨-, p2, -⟩ := lar_is (V := foV (wO W c) (wJ W) (wB W) j) (fun k2 _ => (foV_b hO hn (wJ W) (wB W) j k2 (by omega)).1) ((k' % 32 : Nat) - jX (wJ W (j + 1))) ((k' / 32 : Nat) - jY (wJ W (j + 1))) (jD (wJ W (j + 1)))
      have h1 := p2 k hk (by unfold arP at *; omega)
      have h2 : wF W c (j + 1) k' = sm (prV (wO W c) (wJ W) (wB W) (j + 1) k') (wO W c (j + 1) k') := foV_pr _ _ _ _ _
      rw [prV_s] at h2
      have hwf : wF W c j k = foV (wO W c) (wJ W) (wB W) j k := rfl
      have h3 : wF W c (j + 1) k' ≤ wF W c j k + wO W c (j + 1) k' := by
        rw [h2]
        have : sm (lar (foV (wO W c) (wJ W) (wB W) j) ((k' % 32 : Nat) - jX (wJ W (j + 1))) ((k' / 32 : Nat) - jY (wJ W (j + 1))) (jD (wJ W (j + 1)))) (wO W c (j + 1) k') = (lar (foV (wO W c) (wJ W) (wB W) j) ((k' % 32 : Nat) - jX (wJ W (j + 1))) ((k' / 32 : Nat) - jY (wJ W (j + 1))) (jD (wJ W (j + 1)))) + wO W c (j + 1) k' := by
          unfold sm
          rw [if_neg (by omega), if_pos g3]
        rw [this]; omega
      have ih := ih0 (by omega) k' hk' (by rw [ej]; omega)
      rw [gbV_s]
      obtain ⟨-, c2, -⟩ := lar_is (V := gbA W c r) (fun k2 _ => gbA_b hO hn (by omega) k2) ((k % 32 : Nat) + jX (wJ W (wl W - 1 - r))) ((k / 32 : Nat) + jY (wJ W (wl W - 1 - r))) (jD (wJ W (wl W - 1 - r)))
      have h4 := c2 k' hk' (by rw [ej]; exact hp)
      have h5 : gbA W c r k' = gbV W c r k' + wO W c (j + 1) k' := by
        unfold gbA
        rw [ej, if_pos (by omega)]
        unfold sm
        rw [if_neg (by omega), if_pos g3]
      omega
theorem thB_gb {W : aW} {c i k : Nat} (hO : okO2 (wl W) (wO W c)) (hn : wl W ≤ 12) (hs : ws W ≤ 3) (hi : i < wl W) (hk : k < 1024) : thB W c i k = decide (wF W c i k + gbV W c (wl W - 1 - i) k ≤ ws W) := by
  have hF : ws W < FARn := by unfold FARn; omega
  have er : wl W - 1 - (wl W - 1 - i) = i := by omega
  have a1 := th_gb hO hn (wl W - 1 - i) (by omega) k
  have a2 := gb_th hO hn hs (wl W - 1 - i) (by omega) k hk
  rw [er] at a2
  have e1 : wE W c i k = sm (thV W c (wl W - 1 - i) k) (wO W c i k) := by
    have := beV_th W c (wl W - 1 - i) k
    rw [er] at this; exact this
  have b1 := thV_b hO hn (wl W - 1 - i) (by omega) k
  have g1 : wF W c i k < FARn → wO W c i k ≤ wF W c i k := foV_ge i k
  have b2 : wF W c i k ≤ FARn ∧ (wF W c i k < FARn → wF W c i k ≤ 6 * (i + 1)) := foV_b hO hn (wJ W) (wB W) i k hi
  unfold thB
  rw [e1]
  have key : (sm (wF W c i k) (sm (thV W c (wl W - 1 - i) k) (wO W c i k)) < FARn ∧ sm (wF W c i k) (sm (thV W c (wl W - 1 - i) k) (wO W c i k)) - wO W c i k ≤ ws W) ↔ wF W c i k + gbV W c (wl W - 1 - i) k ≤ ws W := by
    constructor
    · rintro ⟨h1, h2⟩
      obtain ⟨p1, p2, p3⟩ := sm_lt (Nat.le_refl (sm (wF W c i k) (sm (thV W c (wl W - 1 - i) k) (wO W c i k)))) h1
      obtain ⟨q1, q2, q3⟩ := sm_lt (Nat.le_refl (sm (thV W c (wl W - 1 - i) k) (wO W c i k))) p3
      rw [p1, q1] at h2
      have := a2 (by omega)
      omega
    · intro h1
      have h2 : wF W c i k + thV W c (wl W - 1 - i) k ≤ ws W := by omega
      have h3 := g1 (by omega)
      have q1 : sm (thV W c (wl W - 1 - i) k) (wO W c i k) = thV W c (wl W - 1 - i) k + wO W c i k := by
        unfold sm; rw [if_neg (by omega), if_pos (by omega)]
      have p1 : sm (wF W c i k) (thV W c (wl W - 1 - i) k + wO W c i k) = wF W c i k + (thV W c (wl W - 1 - i) k + wO W c i k) := by
        unfold sm; unfold FARn at *; rw [if_neg (by omega), if_pos (by omega)]
      rw [q1, p1]
      unfold FARn at *
      omega
  by_cases hq : wF W c i k + gbV W c (wl W - 1 - i) k ≤ ws W
  · rw [decide_eq_true hq, decide_eq_true (key.mpr hq)]
  · rw [decide_eq_false hq, decide_eq_false (fun z => hq (key.mp z))]
