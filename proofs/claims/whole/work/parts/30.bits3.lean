/-! the program's count of bits is the count of bits -/
theorem g1b_lt {b : Nat} (h : b < 256) : g1b b < 256 := by unfold g1b; omega
theorem uU_inj {x y : Int32} (h : uU x = uU y) : x = y := Int32.toBitVec_inj.mp (BitVec.eq_of_toNat_eq h)
theorem uU_s : ∀ s, s < 33 → uU (nI s) = s := by decide +kernel
theorem bitCount_u (x : Int32) {a b c e : Nat} (ha : a < 256) (hb : b < 256) (hc : c < 256) (he : e < 256) (h : uU x = p4 a b c e) : uU (f_J6_bitCount_0f7a4 x) = pc8 a + pc8 b + pc8 c + pc8 e := by
  obtain ⟨a1, a2, a3, a4⟩ := by_3 a ha
  obtain ⟨b1, b2, b3, b4⟩ := by_3 b hb
  obtain ⟨c1, c2, c3, c4⟩ := by_3 c hc
  obtain ⟨e1, e2, e3, e4⟩ := by_3 e he
  have t1 := s_1 ha hb hc he h
  have t2 := s_2 (g1b_lt ha) (g1b_lt hb) (g1b_lt hc) (g1b_lt he) t1 a1 b1 c1 e1
  have t3 := s_3 a1 b1 c1 e1 t2 b2 c2 e2
  rw [a4, b4, c4, e4] at t3
  have t4 := s_4 a3 b3 c3 e3 t3
  unfold f_J6_bitCount_0f7a4
  exact t4
theorem bitCount_eq (x : Int32) : f_J6_bitCount_0f7a4 x = nI (cnt (bt x) 32) := by
  obtain ⟨a, b, c, e, ha, hb, hc, he, h⟩ := p4_ex (uU x) (uU_lt x)
  have k1 := (by_3 a ha).2.2.1
  have k2 := (by_3 b hb).2.2.1
  have k3 := (by_3 c hc).2.2.1
  have k4 := (by_3 e he).2.2.1
  have hr := cnt_pc x ha hb hc he h
  apply uU_inj
  rw [bitCount_u x ha hb hc he h, hr]
  exact (uU_s _ (by omega)).symm
