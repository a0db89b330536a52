/-! the number of bits, told -/
theorem bt_u (x : Int32) (i : Nat) : (if bt x i then 1 else 0) = uU x / 2 ^ i % 2 := by
  unfold bt uU
  rw [BitVec.getLsbD, Nat.testBit_eq_decide_div_mod_eq]
  rcases (show x.toBitVec.toNat / 2 ^ i % 2 = 0 ∨ x.toBitVec.toNat / 2 ^ i % 2 = 1 by omega) with h | h <;> simp [h]
theorem cnt_u (x : Int32) (n : Nat) : cnt (bt x) (n + 1) = cnt (bt x) n + uU x / 2 ^ n % 2 := by rw [cnt, bt_u]
theorem cnt_8 (F : Nat → Nat) (U m v : Nat) (f0 : ∀ n, F (n + 1) = F n + U / 2 ^ n % 2) (q : ∀ k, k < 8 → U / 2 ^ (m + k) % 2 = v / 2 ^ k % 2) : F (m + 8) = F m + pc8 v := by
  have w0 := f0 m
  have w1 := f0 (m + 1)
  have w2 := f0 (m + 2)
  have w3 := f0 (m + 3)
  have w4 := f0 (m + 4)
  have w5 := f0 (m + 5)
  have w6 := f0 (m + 6)
  have w7 := f0 (m + 7)
  have q0 := q 0 (by omega)
  rw [Nat.add_zero] at q0
  rw [q0] at w0
  rw [q 1 (by omega)] at w1
  rw [q 2 (by omega)] at w2
  rw [q 3 (by omega)] at w3
  rw [q 4 (by omega)] at w4
  rw [q 5 (by omega)] at w5
  rw [q 6 (by omega)] at w6
  rw [q 7 (by omega)] at w7
  simp only [Nat.add_assoc, Nat.reduceAdd] at w1 w2 w3 w4 w5 w6 w7
  rw [w7, w6, w5, w4, w3, w2, w1, w0]
  unfold pc8
  simp only [Nat.reducePow, Nat.pow_zero, Nat.div_one, Nat.add_assoc]
theorem q_div (u v : Nat) (k : Nat) (hk : k < 8) (hv : v < 256) : (v + 256 * u) / 2 ^ k % 2 = v / 2 ^ k % 2 := by
  rcases (show k = 0 ∨ k = 1 ∨ k = 2 ∨ k = 3 ∨ k = 4 ∨ k = 5 ∨ k = 6 ∨ k = 7 by omega) with rfl | rfl | rfl | rfl | rfl | rfl | rfl | rfl <;> omega
theorem cnt_pcF (F : Nat → Nat) (U a b c e : Nat) (ha : a < 256) (hb : b < 256) (hc : c < 256) (he : e < 256) (f0 : ∀ n, F (n + 1) = F n + U / 2 ^ n % 2) (h : U = p4 a b c e) : F 32 = F 0 + pc8 a + pc8 b + pc8 c + pc8 e := by
  have r1 := cnt_8 F U 0 a f0 (fun k hk => by rw [h, Nat.zero_add]; exact q_div _ _ k hk ha)
  have r2 := cnt_8 F U 8 b f0 (fun k hk => by
    rw [h, Nat.pow_add, ← Nat.div_div_eq_div_mul, show p4 a b c e / 2 ^ 8 = b + 256 * (c + 256 * e) by unfold p4; omega]; exact q_div _ _ k hk hb)
  have r3 := cnt_8 F U 16 c f0 (fun k hk => by
    rw [h, Nat.pow_add, ← Nat.div_div_eq_div_mul, show p4 a b c e / 2 ^ 16 = c + 256 * e by unfold p4; omega]; exact q_div _ _ k hk hc)
  have r4 := cnt_8 F U 24 e f0 (fun k hk => by
    rw [h, Nat.pow_add, ← Nat.div_div_eq_div_mul, show p4 a b c e / 2 ^ 24 = e + 256 * 0 by unfold p4; omega]; exact q_div _ _ k hk he)
  simp only [Nat.reduceAdd, Nat.zero_add] at r1 r2 r3 r4
  rw [r4, r3, r2, r1]
theorem cnt_pc (x : Int32) {a b c e : Nat} (ha : a < 256) (hb : b < 256) (hc : c < 256) (he : e < 256) (h : uU x = p4 a b c e) : cnt (bt x) 32 = pc8 a + pc8 b + pc8 c + pc8 e := by
  have r := cnt_pcF (cnt (bt x)) (uU x) a b c e ha hb hc he (cnt_u x) h
  have r0 : cnt (bt x) 0 = 0 := rfl
  rw [r, r0, Nat.zero_add]
