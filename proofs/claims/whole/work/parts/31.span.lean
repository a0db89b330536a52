/-! spans of bits -/
theorem bt_from {p i : Nat} (hp : p < 32) (hi : i < 32) : bt (m_shl (-1) (nI p)) i = decide (p ≤ i) := by
  rw [bt_shl p hp _ hi]
  by_cases h : p ≤ i
  · rw [bt_m1 _ (by omega)]; simp
  · simp [h]
theorem bt_upto {p i : Nat} (hp : p < 32) (hi : i < 32) : bt (m_ushr (-1) (31 - nI p)) i = decide (i ≤ p) := by
  have e : (31 : Int32) - nI p = nI (31 - p) := by
    rw [show (31 : Int32) = iI 31 from rfl, ii_nat p, ii_sub, ii_nat]; congr 1; omega
  rw [e, bt_ushr (31 - p) (by omega)]
  by_cases h : i ≤ p
  · rw [bt_m1 _ (by omega), decide_eq_true h]
  · rw [bt_big (by omega), decide_eq_false h]
theorem bt_span {a b i : Nat} (ha : a < 32) (hb : b < 32) (hi : i < 32) : bt (f_X11_span (nI a) (nI b)) i = decide (min a b ≤ i ∧ i ≤ max a b) := by
  unfold f_X11_span
  by_cases h : b ≤ a
  · have g : nI b ≤ nI a := (nI_leI (by omega) (by omega)).mpr h
    rw [if_pos g, if_pos g, bt_and, bt_from hb hi, bt_upto ha hi, Nat.min_eq_right h, Nat.max_eq_left h, Bool.decide_and]
  · have g : ¬ nI b ≤ nI a := fun z => h ((nI_leI (by omega) (by omega)).mp z)
    rw [if_neg g, if_neg g, bt_and, bt_from ha hi, bt_upto hb hi, Nat.min_eq_left (by omega), Nat.max_eq_right (by omega), Bool.decide_and]
theorem bt_without {x : Int32} {p i : Nat} (hp : p < 32) (hi : i < 32) : bt (x &&& m_not (m_shl 1 (nI p))) i = (bt x i && !decide (i = p)) := by
  rw [bt_and, bt_not _ hi, bt_shl p hp _ hi]
  congr 1
  by_cases h : p ≤ i
  · rw [bt_one (by omega)]
    by_cases h2 : i = p
    · simp [h2]
    · simp [h2, h, show ¬ i - p = 0 by omega]
  · simp [h, show ¬ i = p by omega]
