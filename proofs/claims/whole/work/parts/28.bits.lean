/-! the number of bits -/
def cnt (p : Nat → Bool) : Nat → Nat
  | 0 => 0
  | n + 1 => cnt p n + (if p n then 1 else 0)
def uU (x : Int32) : Nat := x.toBitVec.toNat
theorem uU_lt (x : Int32) : uU x < 4294967296 := x.toBitVec.isLt
theorem uU_and (x y : Int32) : uU (x &&& y) = uU x &&& uU y := by simp [uU]
theorem uU_add (x y : Int32) : uU (x + y) = (uU x + uU y) % 4294967296 := by simp [uU]
theorem uU_sub (x y : Int32) : uU (x - y) = (4294967296 - uU y + uU x) % 4294967296 := by simp [uU, BitVec.toNat_sub]
theorem uU_ushr (n : Nat) (hn : n < 32) (x : Int32) : uU (m_ushr x (nI n)) = uU x / 2 ^ n := by
  unfold m_ushr uU
  have h : ((x.toUInt32 >>> ((nI n).toUInt32 &&& Int32.toUInt32 31)).toInt32).toBitVec = x.toBitVec >>> n := by
    show (x.toUInt32 >>> ((nI n).toUInt32 &&& Int32.toUInt32 31)).toBitVec = _
    rw [UInt32.toBitVec_shiftRight, BitVec.ushiftRight_eq', bt_amu n hn]
    rfl
  rw [h, BitVec.toNat_ushiftRight, Nat.shiftRight_eq_div_pow]
def p4 (a b c e : Nat) : Nat := a + 256 * (b + 256 * (c + 256 * e))
theorem and256 {b X m Y : Nat} (hb : b < 256) (hm : m < 256) : (b + 256 * X) &&& (m + 256 * Y) = (b &&& m) + 256 * (X &&& Y) := by
  have h1 := Nat.and_mod_two_pow (a := b + 256 * X) (b := m + 256 * Y) (n := 8)
  have h2 := Nat.and_div_two_pow (a := b + 256 * X) (b := m + 256 * Y) (n := 8)
  rw [show (2 : Nat) ^ 8 = 256 from rfl] at h1 h2
  rw [show (b + 256 * X) % 256 = b by omega, show (m + 256 * Y) % 256 = m by omega] at h1
  rw [show (b + 256 * X) / 256 = X by omega, show (m + 256 * Y) / 256 = Y by omega] at h2
  have h3 := Nat.mod_add_div ((b + 256 * X) &&& (m + 256 * Y)) 256
  rw [h1, h2] at h3
  exact h3.symm
theorem p4_and {a b c e m1 m2 m3 m4 : Nat} (h1 : a < 256) (h2 : b < 256) (h3 : c < 256) (g1 : m1 < 256) (g2 : m2 < 256) (g3 : m3 < 256) : p4 a b c e &&& p4 m1 m2 m3 m4 = p4 (a &&& m1) (b &&& m2) (c &&& m3) (e &&& m4) := by
  unfold p4
  rw [and256 h1 g1, and256 h2 g2, and256 h3 g3]
def g1b (b : Nat) : Nat := b - ((b / 2) &&& 85)
def g2b (a : Nat) : Nat := (a &&& 51) + ((a / 4) &&& 51)
def pc8 (b : Nat) : Nat := b % 2 + b / 2 % 2 + b / 4 % 2 + b / 8 % 2 + b / 16 % 2 + b / 32 % 2 + b / 64 % 2 + b / 128 % 2
theorem by_1 : ∀ b, b < 256 → ((b / 2) &&& 85) ≤ b ∧ ∀ c, c < 2 → ((b / 2 + 128 * c) &&& 85) = ((b / 2) &&& 85) := by decide +kernel
theorem by_2 : ∀ a, a < 256 → ∀ c, c < 4 → ((a / 4 + 64 * c) &&& 51) = ((a / 4) &&& 51) := by decide +kernel
theorem by_3 : ∀ b, b < 256 → g2b (g1b b) ≤ 68 ∧ g2b (g1b b) % 16 ≤ 4 ∧ pc8 b ≤ 8 ∧ (g2b (g1b b) + g2b (g1b b) / 16) % 16 = pc8 b := by decide +kernel
theorem by_4 : ∀ c, c < 69 → ∀ e, e < 5 → ((c + (c / 16 + 16 * e)) &&& 15) = (c + c / 16) % 16 := by decide +kernel
theorem by_5 : ∀ s, s < 33 → (s &&& 63) = s := by decide +kernel
theorem p4_ex (X : Nat) (h : X < 4294967296) : ∃ a b c e, a < 256 ∧ b < 256 ∧ c < 256 ∧ e < 256 ∧ X = p4 a b c e := ⟨X % 256, X / 256 % 256, X / 65536 % 256, X / 16777216, by omega, by omega, by omega, by omega, by unfold p4; omega⟩
theorem s_1 {x : Int32} {a b c e : Nat} (ha : a < 256) (hb : b < 256) (hc : c < 256) (he : e < 256) (h : uU x = p4 a b c e) : uU (x - ((m_ushr x 1) &&& 1431655765)) = p4 (g1b a) (g1b b) (g1b c) (g1b e) := by
  have e1 : uU (m_ushr x 1) = p4 (a / 2 + 128 * (b % 2)) (b / 2 + 128 * (c % 2)) (c / 2 + 128 * (e % 2)) (e / 2 + 128 * 0) := by
    rw [show (1 : Int32) = nI 1 from rfl, uU_ushr 1 (by omega), h]; unfold p4; omega
  have e2 : uU (m_ushr x 1 &&& 1431655765) = p4 ((a / 2) &&& 85) ((b / 2) &&& 85) ((c / 2) &&& 85) ((e / 2) &&& 85) := by
    rw [uU_and, e1, show uU 1431655765 = p4 85 85 85 85 from rfl, p4_and (by omega) (by omega) (by omega) (by omega) (by omega) (by omega), (by_1 a ha).2 _ (by omega), (by_1 b hb).2 _ (by omega), (by_1 c hc).2 _ (by omega), (by_1 e he).2 _ (by omega)]
  rw [uU_sub, e2, h]
  have k1 := (by_1 a ha).1
  have k2 := (by_1 b hb).1
  have k3 := (by_1 c hc).1
  have k4 := (by_1 e he).1
  unfold g1b
  generalize (a / 2) &&& 85 = y1 at *
  generalize (b / 2) &&& 85 = y2 at *
  generalize (c / 2) &&& 85 = y3 at *
  generalize (e / 2) &&& 85 = y4 at *
  unfold p4
  omega
theorem s_2 {x : Int32} {a b c e : Nat} (ha : a < 256) (hb : b < 256) (hc : c < 256) (he : e < 256) (h : uU x = p4 a b c e) (ka : g2b a ≤ 68) (kb : g2b b ≤ 68) (kc : g2b c ≤ 68) (ke : g2b e ≤ 68) : uU ((x &&& 858993459) + ((m_ushr x 2) &&& 858993459)) = p4 (g2b a) (g2b b) (g2b c) (g2b e) := by
  have e1 : uU (m_ushr x 2) = p4 (a / 4 + 64 * (b % 4)) (b / 4 + 64 * (c % 4)) (c / 4 + 64 * (e % 4)) (e / 4 + 64 * 0) := by
    rw [show (2 : Int32) = nI 2 from rfl, uU_ushr 2 (by omega), h]; unfold p4; omega
  have e2 : uU (m_ushr x 2 &&& 858993459) = p4 ((a / 4) &&& 51) ((b / 4) &&& 51) ((c / 4) &&& 51) ((e / 4) &&& 51) := by
    rw [uU_and, e1, show uU 858993459 = p4 51 51 51 51 from rfl, p4_and (by omega) (by omega) (by omega) (by omega) (by omega) (by omega), by_2 a ha _ (by omega), by_2 b hb _ (by omega), by_2 c hc _ (by omega), by_2 e he _ (by omega)]
  have e3 : uU (x &&& 858993459) = p4 (a &&& 51) (b &&& 51) (c &&& 51) (e &&& 51) := by
    rw [uU_and, h, show uU 858993459 = p4 51 51 51 51 from rfl, p4_and (by omega) (by omega) (by omega) (by omega) (by omega) (by omega)]
  rw [uU_add, e2, e3]
  unfold g2b at *
  generalize (a / 4) &&& 51 = y1 at *
  generalize (b / 4) &&& 51 = y2 at *
  generalize (c / 4) &&& 51 = y3 at *
  generalize (e / 4) &&& 51 = y4 at *
  generalize a &&& 51 = z1 at *
  generalize b &&& 51 = z2 at *
  generalize c &&& 51 = z3 at *
  generalize e &&& 51 = z4 at *
  unfold p4
  omega
theorem s_3 {x : Int32} {a b c e : Nat} (ha : a ≤ 68) (hb : b ≤ 68) (hc : c ≤ 68) (he : e ≤ 68) (h : uU x = p4 a b c e) (kb : b % 16 ≤ 4) (kc : c % 16 ≤ 4) (ke : e % 16 ≤ 4) : uU ((x + (m_ushr x 4)) &&& 252645135) = p4 ((a + a / 16) % 16) ((b + b / 16) % 16) ((c + c / 16) % 16) ((e + e / 16) % 16) := by
  have e1 : uU (x + m_ushr x 4) = p4 (a + (a / 16 + 16 * (b % 16))) (b + (b / 16 + 16 * (c % 16))) (c + (c / 16 + 16 * (e % 16))) (e + (e / 16 + 16 * 0)) := by
    rw [show (4 : Int32) = nI 4 from rfl, uU_add, uU_ushr 4 (by omega), h]; unfold p4; omega
  rw [uU_and, e1, show uU 252645135 = p4 15 15 15 15 from rfl, p4_and (by omega) (by omega) (by omega) (by omega) (by omega) (by omega), by_4 a (by omega) _ (by omega), by_4 b (by omega) _ (by omega), by_4 c (by omega) _ (by omega), by_4 e (by omega) _ (by omega)]
theorem s_4 {x : Int32} {a b c e : Nat} (ha : a ≤ 8) (hb : b ≤ 8) (hc : c ≤ 8) (he : e ≤ 8) (h : uU x = p4 a b c e) : uU (((x + (m_ushr x 8)) + (m_ushr (x + (m_ushr x 8)) 16)) &&& 63) = a + b + c + e := by
  have e1 : uU (x + m_ushr x 8) = p4 (a + b) (b + c) (c + e) e := by
    rw [show (8 : Int32) = nI 8 from rfl, uU_add, uU_ushr 8 (by omega), h]; unfold p4; omega
  have e2 : uU ((x + (m_ushr x 8)) + (m_ushr (x + (m_ushr x 8)) 16)) = p4 (a + b + c + e) (b + c + e) (c + e) e := by
    have hd : p4 (a + b) (b + c) (c + e) e / 65536 = (c + e) + 256 * e := by unfold p4; omega
    rw [show (16 : Int32) = nI 16 from rfl, uU_add, uU_ushr 16 (by omega), e1, show (2 : Nat) ^ 16 = 65536 from rfl, hd]; unfold p4; omega
  rw [uU_and, e2, show uU 63 = p4 63 0 0 0 from rfl, p4_and (by omega) (by omega) (by omega) (by omega) (by omega) (by omega), by_5 _ (by omega), Nat.and_zero, Nat.and_zero, Nat.and_zero]
  unfold p4; omega
