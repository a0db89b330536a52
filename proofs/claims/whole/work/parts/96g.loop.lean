/-! the law's loop -/
theorem m_and31 (x : Int32) : ∃ c : Nat, c < 32 ∧ x &&& 31 = nI c := by
  refine ⟨uU (x &&& 31), ?_, (nI_uU _).symm⟩
  rw [uU_and]
  have : uU (31 : Int32) = 31 := by decide
  rw [this]
  exact Nat.lt_of_le_of_lt Nat.and_le_right (by omega)
set_option maxHeartbeats 4000000 in
theorem m_loop {G : mG} (hG : gN G ≤ 3584) : ∀ (r i : Nat) (h : mH) (W : aW) (I : Nat → Nat) (n : Nat) (t : Nat → Nat) (CH : aCc) (j : Nat), gN G ≤ i + 7 * r → i ≤ 3600 → j + r < 80000 → cIn h W I n t CH j → mIn h W n t CH → mW G kL_law 1000 (9 * r + 9, 5760 * r + 5760) 18 [some (.inr (some 0)), some (.inr (some 8)), some (.inr (some 47)), some (.inl (nI i))] [] h (fun r _ => r = some (.inl 1)) := by
  intro r
  have lt7 : ∀ i, i ≤ 3600 → ((nI (gN G) - 7 : Int32) < nI i ↔ gN G < i + 7) := by
    intro i hi
    rw [Int32.lt_iff_toInt_lt, nI_toI (by omega), ii_nat, show (7 : Int32) = iI 7 from rfl, ii_sub, ii_toInt ⟨by omega, by omega⟩]
    omega
  induction r with
  | zero =>
    intro i h W I n t CH j hi hi2 hj C M
    refine qL_law_18 (d := 990) (b1 := 9 * 0) (b2 := 5760 * 0) _ C.1 ⟨fun _ => rfl, fun u => absurd ((lt7 i hi2).mpr (by omega)) u⟩
  | succ r ih =>
    intro i h W I n t CH j hi hi2 hj C M
    have hj1 : j + 1 < 90000 := by omega
    refine qL_law_18 (d := 990) (b1 := 9 * (r + 1)) (b2 := 5760 * (r + 1)) _ C.1 ⟨fun _ => rfl, fun u => ?_⟩
    rw [lt7 i hi2] at u
    have K : ∀ B1 B2 : Nat, 9 * r + 9 ≤ B1 → 5760 * r + 5760 ≤ B2 → inK (fun h2 => mW G kL_law 1000 (B1, B2) 18 [some (.inr (some 0)), some (.inr (some 8)), some (.inr (some 47)), some (.inl (nI i + 7))] [] h2 (fun r _ => r = some (.inl 1))) j := by
      intro B1 B2 b1 b2 h2 W2 I2 n2 t2 CH2 j2 C2 M2 hj2
      rw [show (7 : Int32) = nI 7 from rfl, nI_add]
      exact mw_bud b1 b2 (ih (i + 7) h2 W2 I2 n2 t2 CH2 j2 (by omega) (by omega) (by omega) C2 M2)
    have vp : ∀ k, k ≤ 6 → vp_in (nI (i + k)) (gN G) := fun k hk => vp_in_nI (by omega) (by omega)
    have v0 : vp_in (nI i) (gN G) := vp 0 (by omega)
    have v1 : vp_in (nI i + 1) (gN G) := by rw [show (1 : Int32) = nI 1 from rfl, nI_add]; exact vp 1 (by omega)
    have v2 : vp_in (nI i + 2) (gN G) := by rw [show (2 : Int32) = nI 2 from rfl, nI_add]; exact vp 2 (by omega)
    have v3 : vp_in (nI i + 3) (gN G) := by rw [show (3 : Int32) = nI 3 from rfl, nI_add]; exact vp 3 (by omega)
    have v4 : vp_in (nI i + 4) (gN G) := by rw [show (4 : Int32) = nI 4 from rfl, nI_add]; exact vp 4 (by omega)
    have v5 : vp_in (nI i + 5) (gN G) := by rw [show (5 : Int32) = nI 5 from rfl, nI_add]; exact vp 5 (by omega)
    have v6 : vp_in (nI i + 6) (gN G) := by rw [show (6 : Int32) = nI 6 from rfl, nI_add]; exact vp 6 (by omega)
    refine ⟨v0, fun _ => K _ _ (by omega) (by omega) h W I n t CH j C M (by omega), fun _ => ⟨v1, v2, v3, v4, v5, op_feed (D := 969) (Q := fun r _ => r = some (.inl 1)) (T := fun p => vp_in (nI i + 1) (gN G) ∧ vp_in (nI i + 2) (gN G) ∧ vp_in (nI i + 3) (gN G) ∧ vp_in (nI i + 4) (gN G) ∧ vp_in (nI i + 5) (gN G) ∧ p) _ _ _ _ _ C M (fun p hp => ⟨v1, v2, v3, v4, v5, hp⟩) (K (9 * (r + 1) + 9) (5760 * (r + 1) + 5760) (by omega) (by omega))⟩,
      fun _ => ⟨v1, op_coast (D := 969) (Q := fun r _ => r = some (.inl 1)) (T := fun p => vp_in (nI i + 1) (gN G) ∧ p) _ C hj1 M (fun p hp => ⟨v1, hp⟩) (K (9 * (r + 1)) (5760 * (r + 1)) (by omega) (by omega))⟩,
      fun _ => ⟨v1, op_law (D := 969) (Q := fun r _ => r = some (.inl 1)) (T := fun p => vp_in (nI i + 1) (gN G) ∧ p) _ C hj1 M (fun p hp => ⟨v1, hp⟩) (K (9 * (r + 1) + 9) (5760 * (r + 1) + 5760) (by omega) (by omega))⟩,
      fun _ => ⟨v1, v2, v3, op_push (D := 969) (Q := fun r _ => r = some (.inl 1)) (T := fun p => vp_in (nI i + 1) (gN G) ∧ vp_in (nI i + 2) (gN G) ∧ vp_in (nI i + 3) (gN G) ∧ p) _ _ _ C hj1 M (fun p hp => ⟨v1, v2, v3, hp⟩) (K (9 * (r + 1)) (5760 * (r + 1)) (by omega) (by omega))⟩,
      fun _ => ⟨v1, v2, v3, op_land (D := 969) (Q := fun r _ => r = some (.inl 1)) (T := fun p => vp_in (nI i + 1) (gN G) ∧ vp_in (nI i + 2) (gN G) ∧ vp_in (nI i + 3) (gN G) ∧ p) _ _ _ C M (fun p hp => ⟨v1, v2, v3, hp⟩) (K (9 * (r + 1) + 9) (5760 * (r + 1) + 5760) (by omega) (by omega))⟩,
      fun _ => ⟨v1, v2, v3, v4, v5, op_facing (D := 969) (Q := fun r _ => r = some (.inl 1)) (T := fun p => vp_in (nI i + 1) (gN G) ∧ vp_in (nI i + 2) (gN G) ∧ vp_in (nI i + 3) (gN G) ∧ vp_in (nI i + 4) (gN G) ∧ vp_in (nI i + 5) (gN G) ∧ p) _ _ _ _ _ C M (fun p hp => ⟨v1, v2, v3, v4, v5, hp⟩) (K (9 * (r + 1) + 9) (5760 * (r + 1) + 5760) (by omega) (by omega))⟩,
      fun _ => ⟨v1, v2, v3, v4, op_sounder (D := 969) (Q := fun r _ => r = some (.inl 1)) (T := fun p => vp_in (nI i + 1) (gN G) ∧ vp_in (nI i + 2) (gN G) ∧ vp_in (nI i + 3) (gN G) ∧ vp_in (nI i + 4) (gN G) ∧ p) _ _ _ _ C M (fun p hp => ⟨v1, v2, v3, v4, hp⟩) (K (9 * (r + 1) + 9) (5760 * (r + 1) + 5760) (by omega) (by omega))⟩,
      fun _ => ⟨v1, v2, v3, v4, v5, v6, op_level (D := 969) (Q := fun r _ => r = some (.inl 1)) (T := fun p => vp_in (nI i + 1) (gN G) ∧ vp_in (nI i + 2) (gN G) ∧ vp_in (nI i + 3) (gN G) ∧ vp_in (nI i + 4) (gN G) ∧ vp_in (nI i + 5) (gN G) ∧ vp_in (nI i + 6) (gN G) ∧ p) _ _ _ _ _ _ C M (fun p hp => ⟨v1, v2, v3, v4, v5, v6, hp⟩) (K (9 * (r + 1) + 9) (5760 * (r + 1) + 5760) (by omega) (by omega))⟩,
      fun _ => ⟨v1, v2, v3, v4, v5, op_line (D := 969) (Q := fun r _ => r = some (.inl 1)) (T := fun p => vp_in (nI i + 1) (gN G) ∧ vp_in (nI i + 2) (gN G) ∧ vp_in (nI i + 3) (gN G) ∧ vp_in (nI i + 4) (gN G) ∧ vp_in (nI i + 5) (gN G) ∧ p) _ _ _ _ _ C hj1 M (fun p hp => ⟨v1, v2, v3, v4, v5, hp⟩) (K (9 * (r + 1) + 7) (5760 * (r + 1) + 5747) (by omega) (by omega))⟩,
      fun _ => ⟨v1, v2, v3, op_hears (D := 969) (Q := fun r _ => r = some (.inl 1)) (T := fun p => vp_in (nI i + 1) (gN G) ∧ vp_in (nI i + 2) (gN G) ∧ vp_in (nI i + 3) (gN G) ∧ p) _ _ _ C hj1 M (fun p hp => ⟨v1, v2, v3, hp⟩) (K (9 * (r + 1) + 6) (5760 * (r + 1) + 5242) (by omega) (by omega))⟩,
      fun _ => ⟨v1, v2, op_echo (D := 969) (Q := fun r _ => r = some (.inl 1)) (T := fun p => vp_in (nI i + 1) (gN G) ∧ vp_in (nI i + 2) (gN G) ∧ p) _ _ C hj1 M (fun p hp => ⟨v1, v2, hp⟩) (K (9 * (r + 1) + 6) (5760 * (r + 1) + 5242) (by omega) (by omega))⟩,
      fun _ => op_back (D := 969) (Q := fun r _ => r = some (.inl 1)) (T := fun p => p) C hj1 M (fun p hp => hp) (K (9 * (r + 1) + 9) (5760 * (r + 1) + 5760) (by omega) (by omega)),
      fun _ => ⟨v1, op_wrong (D := 969) (Q := fun r _ => r = some (.inl 1)) (T := fun p => vp_in (nI i + 1) (gN G) ∧ p) _ C hj1 M (fun p hp => ⟨v1, hp⟩) (K (9 * (r + 1) + 9) (5760 * (r + 1) + 5760) (by omega) (by omega))⟩,
      fun _ => ⟨v1, v2, v3, v4, op_box (D := 969) (Q := fun r _ => r = some (.inl 1)) (T := fun p => vp_in (nI i + 1) (gN G) ∧ vp_in (nI i + 2) (gN G) ∧ vp_in (nI i + 3) (gN G) ∧ vp_in (nI i + 4) (gN G) ∧ p) _ _ _ _ C hj1 M (fun p hp => ⟨v1, v2, v3, v4, hp⟩) (K (9 * (r + 1) + 9) (5760 * (r + 1) + 5760) (by omega) (by omega))⟩,
      fun _ => ⟨v1, op_fits (D := 969) (Q := fun r _ => r = some (.inl 1)) (T := fun p => vp_in (nI i + 1) (gN G) ∧ p) _ C M (fun p hp => ⟨v1, hp⟩) (K (9 * (r + 1) + 9) (5760 * (r + 1) + 5760) (by omega) (by omega))⟩,
      fun _ => ⟨v1, op_firstBad (D := 969) (Q := fun r _ => r = some (.inl 1)) (T := fun p => vp_in (nI i + 1) (gN G) ∧ p) _ C M (fun p hp => ⟨v1, hp⟩) (K (9 * (r + 1) + 9) (5760 * (r + 1) + 5760) (by omega) (by omega))⟩,
      fun _ => ⟨v1, v2, op_possible (D := 969) (Q := fun r _ => r = some (.inl 1)) (T := fun p => vp_in (nI i + 1) (gN G) ∧ vp_in (nI i + 2) (gN G) ∧ p) _ _ C M (fun p hp => ⟨v1, v2, hp⟩) (K (9 * (r + 1) + 9) (5760 * (r + 1) + 5760) (by omega) (by omega))⟩,
      fun _ => ⟨v1, v2, v3, v4, op_isPossible (D := 969) (Q := fun r _ => r = some (.inl 1)) (T := fun p => vp_in (nI i + 1) (gN G) ∧ vp_in (nI i + 2) (gN G) ∧ vp_in (nI i + 3) (gN G) ∧ vp_in (nI i + 4) (gN G) ∧ p) _ _ _ _ C M (fun p hp => ⟨v1, v2, v3, v4, hp⟩) (K (9 * (r + 1) + 9) (5760 * (r + 1) + 5760) (by omega) (by omega))⟩,
      fun _ => ⟨v1, v2, v3, op_sure (D := 969) (Q := fun r _ => r = some (.inl 1)) (T := fun p => vp_in (nI i + 1) (gN G) ∧ vp_in (nI i + 2) (gN G) ∧ vp_in (nI i + 3) (gN G) ∧ p) _ _ _ C M (fun p hp => ⟨v1, v2, v3, hp⟩) (K (9 * (r + 1) + 9) (5760 * (r + 1) + 5760) (by omega) (by omega))⟩,
      fun _ => ⟨v1, v2, v3, v4, op_choice (D := 969) (Q := fun r _ => r = some (.inl 1)) (T := fun p => vp_in (nI i + 1) (gN G) ∧ vp_in (nI i + 2) (gN G) ∧ vp_in (nI i + 3) (gN G) ∧ vp_in (nI i + 4) (gN G) ∧ p) _ _ _ _ C hj1 M (fun p hp => ⟨v1, v2, v3, v4, hp⟩) (K (9 * (r + 1) + 9) (5760 * (r + 1) + 5760) (by omega) (by omega))⟩,
      fun _ => ⟨v1, op_next (D := 969) (Q := fun r _ => r = some (.inl 1)) (T := fun p => vp_in (nI i + 1) (gN G) ∧ p) _ C M (fun p hp => ⟨v1, hp⟩) (K (9 * (r + 1) + 9) (5760 * (r + 1) + 5760) (by omega) (by omega))⟩,
      fun _ => ⟨v1, op_ahead (D := 969) (Q := fun r _ => r = some (.inl 1)) (T := fun p => vp_in (nI i + 1) (gN G) ∧ p) _ C M (fun p hp => ⟨v1, hp⟩) (K (9 * (r + 1) + 9) (5760 * (r + 1) + 5760) (by omega) (by omega))⟩,
      fun _ => ⟨v1, v2, v3, v4, v5, op_wayIn (D := 969) (Q := fun r _ => r = some (.inl 1)) (T := fun p => vp_in (nI i + 1) (gN G) ∧ vp_in (nI i + 2) (gN G) ∧ vp_in (nI i + 3) (gN G) ∧ vp_in (nI i + 4) (gN G) ∧ vp_in (nI i + 5) (gN G) ∧ p) _ _ _ _ _ C M (fun p hp => ⟨v1, v2, v3, v4, v5, hp⟩) (K (9 * (r + 1) + 9) (5760 * (r + 1) + 5760) (by omega) (by omega))⟩,
      fun _ => ⟨v1, v2, v3, op_pool (D := 969) (Q := fun r _ => r = some (.inl 1)) (T := fun p => vp_in (nI i + 1) (gN G) ∧ vp_in (nI i + 2) (gN G) ∧ vp_in (nI i + 3) (gN G) ∧ p) _ _ _ C M (fun p hp => ⟨v1, v2, v3, hp⟩) (K (9 * (r + 1) + 9) (5760 * (r + 1) + 5760) (by omega) (by omega))⟩,
      fun _ => ⟨v1, v2, op_check (D := 969) (Q := fun r _ => r = some (.inl 1)) (T := fun p => vp_in (nI i + 1) (gN G) ∧ vp_in (nI i + 2) (gN G) ∧ p) _ _ C M (fun p hp => ⟨v1, v2, hp⟩) (K (9 * (r + 1) + 9) (5760 * (r + 1) + 5760) (by omega) (by omega))⟩,
      fun _ => ⟨v1, op_count (D := 969) (Q := fun r _ => r = some (.inl 1)) (T := fun p => vp_in (nI i + 1) (gN G) ∧ p) _ C M (fun p hp => ⟨v1, hp⟩) (K (9 * (r + 1) + 9) (5760 * (r + 1) + 5760) (by omega) (by omega))⟩⟩
