/-! the lowest bit -/
theorem odd_ex : ∀ (n U : Nat), U ≤ n → 0 < U → ∃ p m, U = 2 ^ p * (2 * m + 1)
  | 0, U, h, h0 => by omega
  | n + 1, U, h, h0 => by
    by_cases e : U % 2 = 1
    · exact ⟨0, U / 2, by simp; omega⟩
    · obtain ⟨p, m, hp⟩ := odd_ex n (U / 2) (by omega) (by omega)
      refine ⟨p + 1, m, ?_⟩
      rw [Nat.pow_succ, Nat.mul_assoc, Nat.mul_comm 2, ← Nat.mul_assoc, ← hp]
      omega
theorem bt_t (x : Int32) (i : Nat) : bt x i = x.toBitVec.toNat.testBit i := rfl
theorem tb_odd (m j : Nat) : (2 * m + 1).testBit (j + 1) = (2 * m).testBit (j + 1) := by
  rw [Nat.testBit_succ, Nat.testBit_succ, show (2 * m + 1) / 2 = m by omega, show 2 * m / 2 = m by omega]
theorem low_ex (v : Int32) (hv : v ≠ 0) : ∃ p, p < 32 ∧ bt v p = true ∧ (∀ i, i < p → bt v i = false) ∧ ∀ i, i < 32 → bt (v - 1) i = (if i < p then true else if i = p then false else bt v i) := by
  have hU : v.toBitVec.toNat < 4294967296 := v.toBitVec.isLt
  have h0 : 0 < v.toBitVec.toNat := Nat.pos_of_ne_zero (fun e => hv (Int32.toBitVec_inj.mp (BitVec.eq_of_toNat_eq (by rw [e]; rfl))))
  obtain ⟨p, m, hp⟩ := odd_ex _ _ (Nat.le_refl _) h0
  have hs : (v - 1).toBitVec.toNat = v.toBitVec.toNat - 1 := by
    rw [Int32.toBitVec_sub, BitVec.toNat_sub, show (Int32.toBitVec 1).toNat = 1 from rfl]
    omega
  have b0 : ∀ i, bt v i = (decide (p ≤ i) && (2 * m + 1).testBit (i - p)) := fun i => by
    rw [bt_t, hp, Nat.testBit_two_pow_mul]
  have hp0 : 0 < 2 ^ p := Nat.two_pow_pos p
  have hpl : p < 32 := by
    apply Classical.byContradiction
    intro t
    have h1 : 2 ^ 32 ≤ 2 ^ p := Nat.pow_le_pow_right (by omega) (by omega)
    have h2 : 2 ^ p ≤ 2 ^ p * (2 * m + 1) := Nat.le_mul_of_pos_right _ (by omega)
    omega
  have hm : 2 ^ p * (2 * m + 1) - 1 = 2 ^ p * (2 * m) + (2 ^ p - 1) := by
    rw [Nat.mul_add, Nat.mul_one]; omega
  refine ⟨p, hpl, ?_, fun i hi => ?_, fun i hi => ?_⟩
  · rw [b0]; simp
  · rw [b0]; simp; omega
  · rw [bt_t, hs, hp, hm, Nat.testBit_two_pow_mul_add _ (by omega)]
    by_cases h1 : i < p
    · rw [if_pos h1, if_pos h1, Nat.testBit_two_pow_sub_one]; simp [h1]
    · rw [if_neg h1, if_neg h1]
      by_cases h2 : i = p
      · rw [if_pos h2, h2]; simp
      · rw [if_neg h2, b0]
        obtain ⟨j, hj⟩ : ∃ j, i - p = j + 1 := ⟨i - p - 1, by omega⟩
        rw [hj, tb_odd]
        have : p ≤ i := by omega
        simp [this]
theorem bt_neg (v : Int32) (hv : v ≠ 0) (i : Nat) (hi : i < 32) : bt (-v) i = !bt (v - 1) i := by
  have hU : v.toBitVec.toNat < 4294967296 := v.toBitVec.isLt
  have h0 : 0 < v.toBitVec.toNat := Nat.pos_of_ne_zero (fun e => hv (Int32.toBitVec_inj.mp (BitVec.eq_of_toNat_eq (by rw [e]; rfl))))
  have hs : (v - 1).toBitVec.toNat = v.toBitVec.toNat - 1 := by
    rw [Int32.toBitVec_sub, BitVec.toNat_sub, show (Int32.toBitVec 1).toNat = 1 from rfl]
    omega
  have hn : (-v).toBitVec.toNat = 2 ^ 32 - ((v.toBitVec.toNat - 1) + 1) := by
    rw [Int32.toBitVec_neg, BitVec.toNat_neg]
    omega
  rw [bt_t, hn, Nat.testBit_two_pow_sub_succ (by omega), bt_t, hs]
  simp [hi]
theorem cnt_ltp (p : Nat) : ∀ n, cnt (fun i => decide (i < p)) n = min n p
  | 0 => by simp [cnt]
  | n + 1 => by
    rw [cnt, cnt_ltp p n]
    by_cases h : n < p
    · simp [h]; omega
    · simp [h]; omega
theorem low_n (v : Int32) (hv : v ≠ 0) : ∃ p, p < 32 ∧ f_X11_lowestBit v = nI p ∧ bt v p = true ∧ (∀ i, i < p → bt v i = false) ∧ ∀ i, i < 32 → bt (v &&& (v - 1)) i = (bt v i && !decide (i = p)) := by
  obtain ⟨p, h1, h2, h3, h4⟩ := low_ex v hv
  refine ⟨p, h1, ?_, h2, h3, fun i hi => ?_⟩
  · have e1 : v &&& (-v) = m_shl 1 (nI p) := by
      apply bt_ext
      intro i hi
      rw [bt_and, bt_neg v hv i hi, h4 i hi, bt_shl p h1 _ hi]
      by_cases a : i < p
      · rw [if_pos a]; simp; omega
      · rw [if_neg a]
        by_cases c : i = p
        · rw [if_pos c, c, h2]; simp [bt_one]
        · rw [if_neg c, bt_one (by omega)]
          have : ¬ i - p = 0 := by omega
          simp [this]
    have hw : ∀ i, i < 32 → bt (m_shl 1 (nI p)) i = decide (i = p) := fun i hi => by
      rw [bt_shl p h1 _ hi, bt_one (by omega)]
      by_cases a : p ≤ i
      · by_cases c : i = p
        · simp [c]
        · have : ¬ i - p = 0 := by omega
          simp [this, c]
      · have : ¬ i = p := by omega
        simp [a, this]
    have hne : m_shl 1 (nI p) ≠ 0 := fun z => by
      have := hw p h1
      rw [z, bt_0] at this
      simp at this
    obtain ⟨q, g1, g2, g3, g4⟩ := low_ex _ hne
    have hqp : q = p := by
      rw [hw q g1] at g2
      simpa using g2
    subst hqp
    have e2 : cnt (bt (m_shl 1 (nI q) - 1)) 32 = cnt (fun i => decide (i < q)) 32 := cnt_cong 32 (fun i hi => by
      rw [g4 i hi, hw i hi]
      by_cases a : i < q
      · rw [if_pos a]; simp [a]
      · rw [if_neg a]
        by_cases c : i = q
        · rw [if_pos c]; simp [a]
        · rw [if_neg c]; simp [a, c])
    unfold f_X11_lowestBit
    rw [e1, bitCount_eq, e2, cnt_ltp, show min 32 q = q by omega]
  · rw [bt_and, h4 i hi]
    by_cases a : i < p
    · rw [h3 i a]; simp
    · rw [if_neg a]
      by_cases c : i = p
      · rw [if_pos c]; simp [c]
      · rw [if_neg c]; simp [c]
/-! echoes by views -/
theorem ms_dec : ∀ m, m < 128 → f_X11_maybeSilent (nI m) = (if m = 0 then 1 else if m % 4 = 0 then 0 else 1) := by decide +kernel
theorem vw_echo {C : aCo} (ok : okRing C) {q x y : Nat} (hx : x < 32) (hy : y < 32) (hw : coLand C x y = false) : 2 * f_X11_echoSteps (vwC C q x y) = nI (ecC C q x y) ∧ f_X11_maybeSilent (vwC C q x y) = b2i (siC C q x y) := by
  have h1 := fcS_le C q (rm4 q x y) x y
  have h2 := fcO_le ok (q := q) (rm4 q x y) x y
  have h3 := rm4_31 (q := q) hx hy
  unfold vwC ecC siC
  rw [hw, if_neg (by decide)]
  by_cases h0 : fcS C q (rm4 q x y) x y = 0
  · rw [if_pos h0, if_pos h0, decide_eq_true h0]
    rw [Bool.true_or]
    exact ⟨by decide, by decide⟩
  · rw [if_neg h0, if_neg h0, decide_eq_false h0]
    obtain ⟨-, -, d3⟩ := vw_dec (4 * fcS C q (rm4 q x y) x y + fcO C q (rm4 q x y) x y) (by omega)
    have d4 := ms_dec (4 * fcS C q (rm4 q x y) x y + fcO C q (rm4 q x y) x y) (by omega)
    rw [show (4 * fcS C q (rm4 q x y) x y + fcO C q (rm4 q x y) x y) / 4 = fcS C q (rm4 q x y) x y by omega, show (4 * fcS C q (rm4 q x y) x y + fcO C q (rm4 q x y) x y) % 4 = fcO C q (rm4 q x y) x y by omega] at d3
    rw [if_neg (by omega), show (4 * fcS C q (rm4 q x y) x y + fcO C q (rm4 q x y) x y) % 4 = fcO C q (rm4 q x y) x y by omega] at d4
    rw [d3, d4]
    refine ⟨?_, ?_⟩
    · by_cases h5 : fcO C q (rm4 q x y) x y = 1
      · rw [if_pos h5, if_pos h5]; rfl
      · rw [if_neg h5, if_neg h5, L2, pk_mul]
    · by_cases h5 : fcO C q (rm4 q x y) x y = 0
      · rw [if_pos h5, decide_eq_true h5]; rfl
      · rw [if_neg h5, decide_eq_false h5]; rfl
