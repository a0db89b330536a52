/-! the store that the constructors make -/
def lkT : List (Nat × Nat × Nat) → Nat → Nat × Nat
  | [], _ => (0, 0)
  | q :: l, a => if a = q.1 then q.2 else lkT l a
def lkR : List (Nat × Nat × Option Nat) → Nat → Nat → Option Nat
  | [], _, _ => none
  | q :: l, a, k => if a = q.1 ∧ k = q.2.1 then q.2.2 else lkR l a k
def lkI : List (Nat × Nat × Int32) → Nat → Nat → Int32
  | [], _, _ => 0
  | q :: l, a, k => if a = q.1 ∧ k = q.2.1 then q.2.2 else lkI l a k
theorem lkR_f {N k : Nat} : ∀ {RL : List (Nat × Nat × Option Nat)}, (∀ q ∈ RL, q.1 < N) → lkR RL N k = none
  | [], _ => rfl
  | q :: l, h => by
    unfold lkR
    rw [if_neg (fun z => by have := h q (by simp); omega)]
    exact lkR_f (fun q' hq => h q' (by simp [hq]))
theorem lkI_f {N k : Nat} : ∀ {IL : List (Nat × Nat × Int32)}, (∀ q ∈ IL, q.1 < N) → lkI IL N k = 0
  | [], _ => rfl
  | q :: l, h => by
    unfold lkI
    rw [if_neg (fun z => by have := h q (by simp); omega)]
    exact lkI_f (fun q' hq => h q' (by simp [hq]))
theorem lkT_f {N a : Nat} : ∀ {TL : List (Nat × Nat × Nat)}, (∀ q ∈ TL, q.1 < N) → N ≤ a → lkT TL a = (0, 0)
  | [], _, _ => rfl
  | q :: l, h, ha => by
    unfold lkT
    rw [if_neg (fun z => by have := h q (by simp); omega)]
    exact lkT_f (fun q' hq => h q' (by simp [hq])) ha
/-- the store has these cells, references and ints -/
def bld (h : mH) (N : Nat) (TL : List (Nat × Nat × Nat)) (RL : List (Nat × Nat × Option Nat)) (IL : List (Nat × Nat × Int32)) : Prop := mN h = N ∧ (∀ a, (mT h a, mL h a) = lkT TL a) ∧ (∀ a k, mR h a k = lkR RL a k) ∧ (∀ a k, mI h a k = lkI IL a k) ∧ (∀ q ∈ TL, q.1 < N) ∧ (∀ q ∈ RL, q.1 < N) ∧ ∀ q ∈ IL, q.1 < N
section
variable {h h' : mH} {N t n a k : Nat} {TL : List (Nat × Nat × Nat)} {RL : List (Nat × Nat × Option Nat)} {IL : List (Nat × Nat × Int32)}
theorem bld.al (b : bld h N TL RL IL) (e : h' = mAl h t n) : bld h' (N + 1) ((N, t, n) :: TL) RL IL := by
  obtain ⟨b1, b2, b3, b4, b5, b6, b7⟩ := b
  have e1 : h.1 = N := b1
  subst e
  refine ⟨by show h.1 + 1 = N + 1; rw [e1], fun x => ?_, fun x k => ?_, fun x k => ?_, fun q hq => ?_, fun q hq => Nat.lt_succ_of_lt (b6 q hq), fun q hq => Nat.lt_succ_of_lt (b7 q hq)⟩
  · show (if x = h.1 then t else h.2.1 x, if x = h.1 then n else h.2.2.1 x) = if x = N then (t, n) else lkT TL x
    rw [e1]
    by_cases z : x = N
    · rw [if_pos z, if_pos z, if_pos z]
    · rw [if_neg z, if_neg z, if_neg z]; exact b2 x
  · show (if x = h.1 then fun _ => none else h.2.2.2.2 x) k = lkR RL x k
    rw [e1]
    by_cases z : x = N
    · rw [if_pos z, z, lkR_f b6]
    · rw [if_neg z]; exact b3 x k
  · show (if x = h.1 then fun _ => 0 else h.2.2.2.1 x) k = lkI IL x k
    rw [e1]
    by_cases z : x = N
    · rw [if_pos z, z, lkI_f b7]
    · rw [if_neg z]; exact b4 x k
  · rcases List.mem_cons.mp hq with z | z
    · rw [z]; exact Nat.lt_succ_self N
    · exact Nat.lt_succ_of_lt (b5 q z)
theorem bld.sr {r : Option Nat} (b : bld h N TL RL IL) (ha : a < N) (e : h' = mSR h a k r) : bld h' N TL ((a, k, r) :: RL) IL := by
  obtain ⟨b1, b2, b3, b4, b5, b6, b7⟩ := b
  subst e
  refine ⟨b1, b2, fun x k' => ?_, b4, b5, fun q hq => ?_, b7⟩
  · rw [mR_SR, b3]; rfl
  · rcases List.mem_cons.mp hq with z | z
    · rw [z]; exact ha
    · exact b6 q z
theorem bld.si {v : Int32} (b : bld h N TL RL IL) (ha : a < N) (e : h' = mSI h a k v) : bld h' N TL RL ((a, k, v) :: IL) := by
  obtain ⟨b1, b2, b3, b4, b5, b6, b7⟩ := b
  subst e
  refine ⟨b1, b2, b3, fun x k' => ?_, b5, b6, fun q hq => ?_⟩
  · rw [mI_SI, b4]; rfl
  · rcases List.mem_cons.mp hq with z | z
    · rw [z]; exact ha
    · exact b7 q z
theorem bld.tg (b : bld h N TL RL IL) (e : lkT TL a = (t, n)) : mT h a = t := congrArg Prod.fst ((b.2.1 a).trans e)
theorem bld.rg {r : Option Nat} (b : bld h N TL RL IL) (e : lkR RL a k = r) : mR h a k = r := (b.2.2.1 a k).trans e
theorem bld.ig {v : Int32} (b : bld h N TL RL IL) (e : lkI IL a k = v) : mI h a k = v := (b.2.2.2.1 a k).trans e
theorem bld.nl (b : bld h N TL RL IL) (ha : a < N) : a < mN h := by rw [b.1]; exact ha
end
section
variable {G : mG} {d b1 b2 : Nat} {h : mH} {Q : Option mV → mH → Prop} {N a : Nat} {TL : List (Nat × Nat × Nat)} {RL : List (Nat × Nat × Option Nat)} {IL : List (Nat × Nat × Int32)}

theorem iX9 (b0 : bld h N TL RL IL) (ta : mT h a = 10) (lta : a < N) (K : ∀ h', bld h' (N + 1) ((N, 100, 220) :: TL) ((a, 0, some (N)) :: RL) (IL) → Q none h') : mC G kX9_init (d + 1) (b1 + 1, b2 + 220) [.inr (some a)] h Q := by
  refine qX9_init a ta (b0.nl lta) (fun h1 e1 h2 e2 => ?_)
  have c1 := b0.al e1
  rw [b0.1] at e2
  have c2 := c1.sr (by omega) e2
  exact K h2 c2
theorem iX3 (b0 : bld h N TL RL IL) (ta : mT h a = 4) (lta : a < N) (K : ∀ h', bld h' (N + 4) ((N + 3, 100, 20) :: (N + 2, 100, 12) :: (N + 1, 100, 13) :: (N, 100, 160) :: TL) ((a, 3, some (N + 3)) :: (a, 2, some (N + 2)) :: (a, 1, some (N + 1)) :: (a, 0, some (N)) :: RL) (IL) → Q none h') : mC G kX3_init (d + 1) (b1 + 4, b2 + 205) [.inr (some a)] h Q := by
  refine qX3_init a ta (b0.nl lta) (fun h1 e1 h2 e2 h3 e3 h4 e4 h5 e5 h6 e6 h7 e7 h8 e8 => ?_)
  have c1 := b0.al e1
  rw [b0.1] at e2
  have c2 := c1.sr (by omega) e2
  have c3 := c2.al e3
  rw [c2.1] at e4
  have c4 := c3.sr (by omega) e4
  have c5 := c4.al e5
  rw [c4.1] at e6
  have c6 := c5.sr (by omega) e6
  have c7 := c6.al e7
  rw [c6.1] at e8
  have c8 := c7.sr (by omega) e8
  exact K h8 c8
theorem iX4 (b0 : bld h N TL RL IL) (ta : mT h a = 5) (lta : a < N) (K : ∀ h', bld h' (N + 1) ((N, 100, 160) :: TL) ((a, 0, some (N)) :: RL) (IL) → Q none h') : mC G kX4_init (d + 1) (b1 + 1, b2 + 160) [.inr (some a)] h Q := by
  refine qX4_init a ta (b0.nl lta) (fun h1 e1 h2 e2 => ?_)
  have c1 := b0.al e1
  rw [b0.1] at e2
  have c2 := c1.sr (by omega) e2
  exact K h2 c2
theorem iX0 (b0 : bld h N TL RL IL) (ta : mT h a = 1) (lta : a < N) (K : ∀ h', bld h' (N + 4) ((N + 3, 100, 32) :: (N + 2, 100, 32) :: (N + 1, 100, 32) :: (N, 110, 8) :: TL) ((a, 5, some (N + 3)) :: (a, 4, some (N + 2)) :: (a, 3, some (N + 1)) :: (a, 0, some (N)) :: RL) (IL) → Q none h') : mC G kX0_init (d + 1) (b1 + 4, b2 + 104) [.inr (some a)] h Q := by
  refine qX0_init a ta (b0.nl lta) (fun h1 e1 h2 e2 h3 e3 h4 e4 h5 e5 h6 e6 h7 e7 h8 e8 => ?_)
  have c1 := b0.al e1
  rw [b0.1] at e2
  have c2 := c1.sr (by omega) e2
  have c3 := c2.al e3
  rw [c2.1] at e4
  have c4 := c3.sr (by omega) e4
  have c5 := c4.al e5
  rw [c4.1] at e6
  have c6 := c5.sr (by omega) e6
  have c7 := c6.al e7
  rw [c6.1] at e8
  have c8 := c7.sr (by omega) e8
  exact K h8 c8
theorem iX10 (b0 : bld h N TL RL IL) (ta : mT h a = 11) (lta : a < N) (K : ∀ h', bld h' (N + 2) ((N + 1, 100, 100) :: (N, 100, 4096) :: TL) ((a, 1, some (N + 1)) :: (a, 0, some (N)) :: RL) (IL) → Q none h') : mC G kX10_init (d + 1) (b1 + 2, b2 + 4196) [.inr (some a)] h Q := by
  refine qX10_init a ta (b0.nl lta) (fun h1 e1 h2 e2 h3 e3 h4 e4 => ?_)
  have c1 := b0.al e1
  rw [b0.1] at e2
  have c2 := c1.sr (by omega) e2
  have c3 := c2.al e3
  rw [c2.1] at e4
  have c4 := c3.sr (by omega) e4
  exact K h4 c4
theorem iX8 (b0 : bld h N TL RL IL) (ta : mT h a = 9) (lta : a < N) (K : ∀ h', bld h' (N + 5) ((N + 4, 100, 1024) :: (N + 3, 100, 32) :: (N + 2, 100, 6) :: (N + 1, 100, 6) :: (N, 100, 6) :: TL) ((a, 11, some (N + 4)) :: (a, 10, some (N + 3)) :: (a, 2, some (N + 2)) :: (a, 1, some (N + 1)) :: (a, 0, some (N)) :: RL) (IL) → Q none h') : mC G kX8_init (d + 1) (b1 + 5, b2 + 1074) [.inr (some a)] h Q := by
  refine qX8_init a ta (b0.nl lta) (fun h1 e1 h2 e2 h3 e3 h4 e4 h5 e5 h6 e6 h7 e7 h8 e8 h9 e9 h10 e10 => ?_)
  have c1 := b0.al e1
  rw [b0.1] at e2
  have c2 := c1.sr (by omega) e2
  have c3 := c2.al e3
  rw [c2.1] at e4
  have c4 := c3.sr (by omega) e4
  have c5 := c4.al e5
  rw [c4.1] at e6
  have c6 := c5.sr (by omega) e6
  have c7 := c6.al e7
  rw [c6.1] at e8
  have c8 := c7.sr (by omega) e8
  have c9 := c8.al e9
  rw [c8.1] at e10
  have c10 := c9.sr (by omega) e10
  exact K h10 c10
theorem iX12 (b0 : bld h N TL RL IL) (ta : mT h a = 13) (lta : a < N) (K : ∀ h', bld h' (N + 45) ((N + 44, 100, 1024) :: (N + 43, 101, 1024) :: (N + 42, 101, 1024) :: (N + 41, 100, 4096) :: (N + 40, 101, 1024) :: (N + 39, 100, 25350) :: (N + 38, 100, 65) :: (N + 37, 100, 8192) :: (N + 36, 100, 8192) :: (N + 35, 100, 6) :: (N + 34, 100, 6) :: (N + 33, 100, 6) :: (N + 32, 100, 12288) :: (N + 31, 100, 12288) :: (N + 30, 100, 12288) :: (N + 29, 100, 72) :: (N + 28, 100, 72) :: (N + 27, 100, 72) :: (N + 26, 100, 12) :: (N + 25, 100, 12) :: (N + 24, 100, 12) :: (N + 23, 100, 12) :: (N + 22, 100, 12) :: (N + 21, 100, 12) :: (N + 20, 100, 9) :: (N + 19, 100, 180) :: (N + 18, 100, 12) :: (N + 17, 100, 12) :: (N + 16, 100, 12) :: (N + 15, 100, 180) :: (N + 14, 100, 12) :: (N + 13, 100, 12) :: (N + 12, 100, 12) :: (N + 11, 100, 180) :: (N + 10, 100, 180) :: (N + 9, 105, 220) :: (N + 8, 100, 6) :: (N + 7, 100, 6) :: (N + 6, 100, 6) :: (N + 5, 100, 6) :: (N + 4, 101, 8192) :: (N + 3, 100, 128) :: (N + 2, 100, 128) :: (N + 1, 100, 128) :: (N, 100, 8) :: TL) ((a, 65, some (N + 44)) :: (a, 64, some (N + 43)) :: (a, 63, some (N + 42)) :: (a, 62, some (N + 41)) :: (a, 61, some (N + 40)) :: (a, 60, some (N + 39)) :: (a, 59, some (N + 38)) :: (a, 58, some (N + 37)) :: (a, 57, some (N + 36)) :: (a, 56, some (N + 35)) :: (a, 55, some (N + 34)) :: (a, 54, some (N + 33)) :: (a, 50, some (N + 32)) :: (a, 49, some (N + 31)) :: (a, 48, some (N + 30)) :: (a, 47, some (N + 29)) :: (a, 46, some (N + 28)) :: (a, 45, some (N + 27)) :: (a, 44, some (N + 26)) :: (a, 43, some (N + 25)) :: (a, 42, some (N + 24)) :: (a, 41, some (N + 23)) :: (a, 40, some (N + 22)) :: (a, 39, some (N + 21)) :: (a, 32, some (N + 20)) :: (a, 31, some (N + 19)) :: (a, 30, some (N + 18)) :: (a, 29, some (N + 17)) :: (a, 28, some (N + 16)) :: (a, 27, some (N + 15)) :: (a, 26, some (N + 14)) :: (a, 25, some (N + 13)) :: (a, 24, some (N + 12)) :: (a, 23, some (N + 11)) :: (a, 22, some (N + 10)) :: (a, 11, some (N + 9)) :: (a, 10, some (N + 8)) :: (a, 9, some (N + 7)) :: (a, 8, some (N + 6)) :: (a, 7, some (N + 5)) :: (a, 5, some (N + 4)) :: (a, 4, some (N + 3)) :: (a, 3, some (N + 2)) :: (a, 2, some (N + 1)) :: (a, 1, some (N)) :: RL) ((a, 38, 31) :: (a, 37, 31) :: IL) → Q none h') : mC G kX12_init (d + 1) (b1 + 45, b2 + 96790) [.inr (some a)] h Q := by
  refine qX12_init a ta (b0.nl lta) (fun h1 e1 h2 e2 h3 e3 h4 e4 h5 e5 h6 e6 h7 e7 h8 e8 h9 e9 h10 e10 h11 e11 h12 e12 h13 e13 h14 e14 h15 e15 h16 e16 h17 e17 h18 e18 h19 e19 h20 e20 h21 e21 h22 e22 h23 e23 h24 e24 h25 e25 h26 e26 h27 e27 h28 e28 h29 e29 h30 e30 h31 e31 h32 e32 h33 e33 h34 e34 h35 e35 h36 e36 h37 e37 h38 e38 h39 e39 h40 e40 h41 e41 h42 e42 h43 e43 h44 e44 h45 e45 h46 e46 h47 e47 h48 e48 h49 e49 h50 e50 h51 e51 h52 e52 h53 e53 h54 e54 h55 e55 h56 e56 h57 e57 h58 e58 h59 e59 h60 e60 h61 e61 h62 e62 h63 e63 h64 e64 h65 e65 h66 e66 h67 e67 h68 e68 h69 e69 h70 e70 h71 e71 h72 e72 h73 e73 h74 e74 h75 e75 h76 e76 h77 e77 h78 e78 h79 e79 h80 e80 h81 e81 h82 e82 h83 e83 h84 e84 h85 e85 h86 e86 h87 e87 h88 e88 h89 e89 h90 e90 h91 e91 h92 e92 => ?_)
  have c1 := b0.al e1
  rw [b0.1] at e2
  have c2 := c1.sr (by omega) e2
  have c3 := c2.al e3
  rw [c2.1] at e4
  have c4 := c3.sr (by omega) e4
  have c5 := c4.al e5
  rw [c4.1] at e6
  have c6 := c5.sr (by omega) e6
  have c7 := c6.al e7
  rw [c6.1] at e8
  have c8 := c7.sr (by omega) e8
  have c9 := c8.al e9
  rw [c8.1] at e10
  have c10 := c9.sr (by omega) e10
  have c11 := c10.al e11
  rw [c10.1] at e12
  have c12 := c11.sr (by omega) e12
  have c13 := c12.al e13
  rw [c12.1] at e14
  have c14 := c13.sr (by omega) e14
  have c15 := c14.al e15
  rw [c14.1] at e16
  have c16 := c15.sr (by omega) e16
  have c17 := c16.al e17
  rw [c16.1] at e18
  have c18 := c17.sr (by omega) e18
  have c19 := c18.al e19
  rw [c18.1] at e20
  have c20 := c19.sr (by omega) e20
  have c21 := c20.al e21
  rw [c20.1] at e22
  have c22 := c21.sr (by omega) e22
  have c23 := c22.al e23
  rw [c22.1] at e24
  have c24 := c23.sr (by omega) e24
  have c25 := c24.al e25
  rw [c24.1] at e26
  have c26 := c25.sr (by omega) e26
  have c27 := c26.al e27
  rw [c26.1] at e28
  have c28 := c27.sr (by omega) e28
  have c29 := c28.al e29
  rw [c28.1] at e30
  have c30 := c29.sr (by omega) e30
  have c31 := c30.al e31
  rw [c30.1] at e32
  have c32 := c31.sr (by omega) e32
  have c33 := c32.al e33
  rw [c32.1] at e34
  have c34 := c33.sr (by omega) e34
  have c35 := c34.al e35
  rw [c34.1] at e36
  have c36 := c35.sr (by omega) e36
  have c37 := c36.al e37
  rw [c36.1] at e38
  have c38 := c37.sr (by omega) e38
  have c39 := c38.al e39
  rw [c38.1] at e40
  have c40 := c39.sr (by omega) e40
  have c41 := c40.al e41
  rw [c40.1] at e42
  have c42 := c41.sr (by omega) e42
  have c43 := c42.al e43
  rw [c42.1] at e44
  have c44 := c43.sr (by omega) e44
  have c45 := c44.al e45
  rw [c44.1] at e46
  have c46 := c45.sr (by omega) e46
  have c47 := c46.al e47
  rw [c46.1] at e48
  have c48 := c47.sr (by omega) e48
  have c49 := c48.al e49
  rw [c48.1] at e50
  have c50 := c49.sr (by omega) e50
  have c51 := c50.al e51
  rw [c50.1] at e52
  have c52 := c51.sr (by omega) e52
  have c53 := c52.al e53
  rw [c52.1] at e54
  have c54 := c53.sr (by omega) e54
  have c55 := c54.al e55
  rw [c54.1] at e56
  have c56 := c55.sr (by omega) e56
  have c57 := c56.al e57
  rw [c56.1] at e58
  have c58 := c57.sr (by omega) e58
  have c59 := c58.al e59
  rw [c58.1] at e60
  have c60 := c59.sr (by omega) e60
  have c61 := c60.al e61
  rw [c60.1] at e62
  have c62 := c61.sr (by omega) e62
  have c63 := c62.al e63
  rw [c62.1] at e64
  have c64 := c63.sr (by omega) e64
  have c65 := c64.al e65
  rw [c64.1] at e66
  have c66 := c65.sr (by omega) e66
  have c67 := c66.al e67
  rw [c66.1] at e68
  have c68 := c67.sr (by omega) e68
  have c69 := c68.al e69
  rw [c68.1] at e70
  have c70 := c69.sr (by omega) e70
  have c71 := c70.al e71
  rw [c70.1] at e72
  have c72 := c71.sr (by omega) e72
  have c73 := c72.al e73
  rw [c72.1] at e74
  have c74 := c73.sr (by omega) e74
  have c75 := c74.al e75
  rw [c74.1] at e76
  have c76 := c75.sr (by omega) e76
  have c77 := c76.al e77
  rw [c76.1] at e78
  have c78 := c77.sr (by omega) e78
  have c79 := c78.al e79
  rw [c78.1] at e80
  have c80 := c79.sr (by omega) e80
  have c81 := c80.al e81
  rw [c80.1] at e82
  have c82 := c81.sr (by omega) e82
  have c83 := c82.al e83
  rw [c82.1] at e84
  have c84 := c83.sr (by omega) e84
  have c85 := c84.al e85
  rw [c84.1] at e86
  have c86 := c85.sr (by omega) e86
  have c87 := c86.al e87
  rw [c86.1] at e88
  have c88 := c87.sr (by omega) e88
  have c89 := c88.al e89
  rw [c88.1] at e90
  have c90 := c89.sr (by omega) e90
  have c91 := c90.si (by omega) e91
  have c92 := c91.si (by omega) e92
  exact K h92 c92
end
set_option maxHeartbeats 4000000 in
set_option maxRecDepth 100000 in
theorem i_X2 {G : mG} {d b1 b2 : Nat} {h : mH} {Q : Option mV → mH → Prop} (b0 : bld h 16 [(15, 3, 0), (14, 111, 12), (13, 7, 0), (12, 100, 160), (11, 5, 0), (10, 100, 220), (9, 10, 0), (8, 12, 0)] [(13, 0, some 14), (8, 1, some 11), (11, 0, some 12), (8, 0, some 9), (9, 0, some 10)] [(13, 5, (-1)), (13, 4, 31)]) (K : ∀ h', bld h' 31 [(30, 100, 9), (29, 100, 20), (28, 100, 12), (27, 100, 13), (26, 100, 160), (25, 4, 0), (24, 100, 20), (23, 100, 12), (22, 100, 13), (21, 100, 160), (20, 4, 0), (19, 100, 6), (18, 100, 6), (17, 100, 6), (16, 100, 6), (15, 3, 0), (14, 111, 12), (13, 7, 0), (12, 100, 160), (11, 5, 0), (10, 100, 220), (9, 10, 0), (8, 12, 0)] [(15, 7, some 30), (15, 6, some 25), (25, 3, some 29), (25, 2, some 28), (25, 1, some 27), (25, 0, some 26), (15, 5, some 20), (20, 3, some 24), (20, 2, some 23), (20, 1, some 22), (20, 0, some 21), (15, 3, some 19), (15, 2, some 18), (15, 1, some 17), (15, 0, some 16), (13, 0, some 14), (8, 1, some 11), (11, 0, some 12), (8, 0, some 9), (9, 0, some 10)] [(13, 5, (-1)), (13, 4, 31)] → Q none h') : mC G kX2_init (d + 2) (b1 + 15, b2 + 459) [.inr (some 15)] h Q := by
  refine qX2_init 15 (b0.tg (n := 0) rfl) (b0.nl (by decide)) (fun h1 e1 h2 e2 h3 e3 h4 e4 h5 e5 h6 e6 h7 e7 h8 e8 h9 e9 => ?_)
  have c1 := b0.al e1
  rw [b0.1] at e2
  have c2 := c1.sr (by decide) e2
  have c3 := c2.al e3
  rw [c2.1] at e4
  have c4 := c3.sr (by decide) e4
  have c5 := c4.al e5
  rw [c4.1] at e6
  have c6 := c5.sr (by decide) e6
  have c7 := c6.al e7
  rw [c6.1] at e8
  have c8 := c7.sr (by decide) e8
  have c9 := c8.al e9
  rw [c8.1]
  refine iX3 (a := 20) (b1 := 0) (b2 := 0) c9 (c9.tg (n := 0) rfl) (by decide) (fun h11 c11 => ⟨rfl, c11.tg (n := 0) rfl, c11.nl (by decide), c11.tg (n := 0) rfl, c11.nl (by decide), fun h12 e12 h13 e13 => ?_⟩)
  have c12 := c11.sr (by decide) e12
  have c13 := c12.al e13
  rw [c12.1]
  refine iX3 (a := 25) (b1 := 0) (b2 := 0) c13 (c13.tg (n := 0) rfl) (by decide) (fun h15 c15 => ⟨rfl, c15.tg (n := 0) rfl, c15.nl (by decide), c15.tg (n := 0) rfl, c15.nl (by decide), c15.tg (n := 0) rfl, c15.nl (by decide), fun h16 e16 h17 e17 h18 e18 => ?_⟩)
  have c16 := c15.sr (by decide) e16
  have c17 := c16.al e17
  rw [c16.1] at e18
  have c18 := c17.sr (by decide) e18
  exact K h18 c18
set_option maxHeartbeats 4000000 in
set_option maxRecDepth 100000 in
theorem i_X6 {G : mG} {d b1 b2 : Nat} {h : mH} {Q : Option mV → mH → Prop} (b0 : bld h 14 [(13, 7, 0), (12, 100, 160), (11, 5, 0), (10, 100, 220), (9, 10, 0), (8, 12, 0)] [(8, 1, some 11), (11, 0, some 12), (8, 0, some 9), (9, 0, some 10)] []) (K : ∀ h', bld h' 34 [(33, 100, 32), (32, 100, 128), (31, 100, 32), (30, 100, 9), (29, 100, 20), (28, 100, 12), (27, 100, 13), (26, 100, 160), (25, 4, 0), (24, 100, 20), (23, 100, 12), (22, 100, 13), (21, 100, 160), (20, 4, 0), (19, 100, 6), (18, 100, 6), (17, 100, 6), (16, 100, 6), (15, 3, 0), (14, 111, 12), (13, 7, 0), (12, 100, 160), (11, 5, 0), (10, 100, 220), (9, 10, 0), (8, 12, 0)] [(13, 9, some 33), (13, 8, some 32), (13, 7, some 31), (13, 6, some 15), (15, 7, some 30), (15, 6, some 25), (25, 3, some 29), (25, 2, some 28), (25, 1, some 27), (25, 0, some 26), (15, 5, some 20), (20, 3, some 24), (20, 2, some 23), (20, 1, some 22), (20, 0, some 21), (15, 3, some 19), (15, 2, some 18), (15, 1, some 17), (15, 0, some 16), (13, 0, some 14), (8, 1, some 11), (11, 0, some 12), (8, 0, some 9), (9, 0, some 10)] [(13, 5, (-1)), (13, 4, 31)] → Q none h') : mC G kX6_init (d + 3) (b1 + 20, b2 + 671) [.inr (some 13)] h Q := by
  refine qX6_init 13 (b0.tg (n := 0) rfl) (b0.nl (by decide)) (fun h1 e1 h2 e2 h3 e3 h4 e4 h5 e5 => ?_)
  have c1 := b0.al e1
  rw [b0.1] at e2
  have c2 := c1.sr (by decide) e2
  have c3 := c2.si (by decide) e3
  have c4 := c3.si (by decide) e4
  have c5 := c4.al e5
  rw [c4.1]
  refine i_X2 (b1 := 0) (b2 := 0) c5 (fun h7 c7 => ⟨rfl, c7.tg (n := 0) rfl, c7.nl (by decide), c7.tg (n := 0) rfl, c7.nl (by decide), fun h8 e8 h9 e9 h10 e10 h11 e11 h12 e12 h13 e13 h14 e14 => ?_⟩)
  have c8 := c7.sr (by decide) e8
  have c9 := c8.al e9
  rw [c8.1] at e10
  have c10 := c9.sr (by decide) e10
  have c11 := c10.al e11
  rw [c10.1] at e12
  have c12 := c11.sr (by decide) e12
  have c13 := c12.al e13
  rw [c12.1] at e14
  have c14 := c13.sr (by decide) e14
  exact K h14 c14
set_option maxHeartbeats 4000000 in
set_option maxRecDepth 100000 in
theorem i_X11 {G : mG} {d b1 b2 : Nat} {h : mH} {Q : Option mV → mH → Prop} (b0 : bld h 9 [(8, 12, 0)] [] []) (K : ∀ h', bld h' 48 [(47, 100, 1024), (46, 100, 32), (45, 100, 6), (44, 100, 6), (43, 100, 6), (42, 9, 0), (41, 100, 100), (40, 100, 4096), (39, 11, 0), (38, 100, 32), (37, 100, 32), (36, 100, 32), (35, 110, 8), (34, 1, 0), (33, 100, 32), (32, 100, 128), (31, 100, 32), (30, 100, 9), (29, 100, 20), (28, 100, 12), (27, 100, 13), (26, 100, 160), (25, 4, 0), (24, 100, 20), (23, 100, 12), (22, 100, 13), (21, 100, 160), (20, 4, 0), (19, 100, 6), (18, 100, 6), (17, 100, 6), (16, 100, 6), (15, 3, 0), (14, 111, 12), (13, 7, 0), (12, 100, 160), (11, 5, 0), (10, 100, 220), (9, 10, 0), (8, 12, 0)] [(8, 6, some 42), (42, 11, some 47), (42, 10, some 46), (42, 2, some 45), (42, 1, some 44), (42, 0, some 43), (8, 5, some 39), (39, 1, some 41), (39, 0, some 40), (8, 4, some 34), (34, 5, some 38), (34, 4, some 37), (34, 3, some 36), (34, 0, some 35), (8, 3, some 15), (8, 2, some 13), (13, 9, some 33), (13, 8, some 32), (13, 7, some 31), (13, 6, some 15), (15, 7, some 30), (15, 6, some 25), (25, 3, some 29), (25, 2, some 28), (25, 1, some 27), (25, 0, some 26), (15, 5, some 20), (20, 3, some 24), (20, 2, some 23), (20, 1, some 22), (20, 0, some 21), (15, 3, some 19), (15, 2, some 18), (15, 1, some 17), (15, 0, some 16), (13, 0, some 14), (8, 1, some 11), (11, 0, some 12), (8, 0, some 9), (9, 0, some 10)] [(8, 7, 1), (13, 5, (-1)), (13, 4, 31)] → Q none h') : mC G kX11_init (d + 4) (b1 + 39, b2 + 6474) [.inr (some 8)] h Q := by
  refine qX11_init 8 (b0.tg (n := 0) rfl) (b0.nl (by decide)) (fun h1 e1 => ?_)
  have c1 := b0.al e1
  rw [b0.1]
  refine iX9 (d := d + 2) (a := 9) (b1 := 0) (b2 := 0) c1 (c1.tg (n := 0) rfl) (by decide) (fun h3 c3 => ⟨rfl, c3.tg (n := 0) rfl, c3.nl (by decide), c3.tg (n := 0) rfl, c3.nl (by decide), fun h4 e4 h5 e5 => ?_⟩)
  have c4 := c3.sr (by decide) e4
  have c5 := c4.al e5
  rw [c4.1]
  refine iX4 (d := d + 2) (a := 11) (b1 := 0) (b2 := 0) c5 (c5.tg (n := 0) rfl) (by decide) (fun h7 c7 => ⟨rfl, c7.tg (n := 0) rfl, c7.nl (by decide), c7.tg (n := 0) rfl, c7.nl (by decide), c7.tg (n := 0) rfl, c7.nl (by decide), fun h8 e8 h9 e9 => ?_⟩)
  have c8 := c7.sr (by decide) e8
  have c9 := c8.al e9
  rw [c8.1]
  refine i_X6 (d := d) (b1 := 0) (b2 := 0) c9 (fun h11 c11 => ⟨rfl, c11.tg (n := 0) rfl, c11.nl (by decide), c11.tg (n := 0) rfl, c11.nl (by decide), c11.tg (n := 0) rfl, c11.nl (by decide), c11.tg (n := 0) rfl, c11.nl (by decide), fun h12 e12 => ?_⟩)
  have c12 := c11.sr (by decide) e12
  refine ⟨13, c12.rg rfl, c12.tg (n := 0) rfl, c12.nl (by decide), fun h14 e14 h15 e15 => ?_⟩
  rw [c12.rg (a := 13) (k := 6) (r := some 15) rfl] at e14
  have c14 := c12.sr (by decide) e14
  have c15 := c14.al e15
  rw [c14.1]
  refine iX0 (d := d + 2) (a := 34) (b1 := 0) (b2 := 0) c15 (c15.tg (n := 0) rfl) (by decide) (fun h17 c17 => ⟨rfl, c17.tg (n := 0) rfl, c17.nl (by decide), c17.tg (n := 0) rfl, c17.nl (by decide), c17.tg (n := 0) rfl, c17.nl (by decide), c17.tg (n := 0) rfl, c17.nl (by decide), c17.tg (n := 0) rfl, c17.nl (by decide), c17.tg (n := 0) rfl, c17.nl (by decide), fun h18 e18 h19 e19 => ?_⟩)
  have c18 := c17.sr (by decide) e18
  have c19 := c18.al e19
  rw [c18.1]
  refine iX10 (d := d + 2) (a := 39) (b1 := 0) (b2 := 0) c19 (c19.tg (n := 0) rfl) (by decide) (fun h21 c21 => ⟨rfl, c21.tg (n := 0) rfl, c21.nl (by decide), c21.tg (n := 0) rfl, c21.nl (by decide), c21.tg (n := 0) rfl, c21.nl (by decide), c21.tg (n := 0) rfl, c21.nl (by decide), c21.tg (n := 0) rfl, c21.nl (by decide), c21.tg (n := 0) rfl, c21.nl (by decide), c21.tg (n := 0) rfl, c21.nl (by decide), fun h22 e22 h23 e23 => ?_⟩)
  have c22 := c21.sr (by decide) e22
  have c23 := c22.al e23
  rw [c22.1]
  refine iX8 (d := d + 2) (a := 42) (b1 := 0) (b2 := 0) c23 (c23.tg (n := 0) rfl) (by decide) (fun h25 c25 => ⟨rfl, c25.tg (n := 0) rfl, c25.nl (by decide), c25.tg (n := 0) rfl, c25.nl (by decide), c25.tg (n := 0) rfl, c25.nl (by decide), c25.tg (n := 0) rfl, c25.nl (by decide), c25.tg (n := 0) rfl, c25.nl (by decide), c25.tg (n := 0) rfl, c25.nl (by decide), c25.tg (n := 0) rfl, c25.nl (by decide), c25.tg (n := 0) rfl, c25.nl (by decide), fun h26 e26 h27 e27 => ?_⟩)
  have c26 := c25.sr (by decide) e26
  have c27 := c26.si (by decide) e27
  exact K h27 c27
def tlR : List (Nat × Nat × Nat) := [(93, 100, 1024), (92, 101, 1024), (91, 101, 1024), (90, 100, 4096), (89, 101, 1024), (88, 100, 25350), (87, 100, 65), (86, 100, 8192), (85, 100, 8192), (84, 100, 6), (83, 100, 6), (82, 100, 6), (81, 100, 12288), (80, 100, 12288), (79, 100, 12288), (78, 100, 72), (77, 100, 72), (76, 100, 72), (75, 100, 12), (74, 100, 12), (73, 100, 12), (72, 100, 12), (71, 100, 12), (70, 100, 12), (69, 100, 9), (68, 100, 180), (67, 100, 12), (66, 100, 12), (65, 100, 12), (64, 100, 180), (63, 100, 12), (62, 100, 12), (61, 100, 12), (60, 100, 180), (59, 100, 180), (58, 105, 220), (57, 100, 6), (56, 100, 6), (55, 100, 6), (54, 100, 6), (53, 101, 8192), (52, 100, 128), (51, 100, 128), (50, 100, 128), (49, 100, 8), (48, 13, 0), (47, 100, 1024), (46, 100, 32), (45, 100, 6), (44, 100, 6), (43, 100, 6), (42, 9, 0), (41, 100, 100), (40, 100, 4096), (39, 11, 0), (38, 100, 32), (37, 100, 32), (36, 100, 32), (35, 110, 8), (34, 1, 0), (33, 100, 32), (32, 100, 128), (31, 100, 32), (30, 100, 9), (29, 100, 20), (28, 100, 12), (27, 100, 13), (26, 100, 160), (25, 4, 0), (24, 100, 20), (23, 100, 12), (22, 100, 13), (21, 100, 160), (20, 4, 0), (19, 100, 6), (18, 100, 6), (17, 100, 6), (16, 100, 6), (15, 3, 0), (14, 111, 12), (13, 7, 0), (12, 100, 160), (11, 5, 0), (10, 100, 220), (9, 10, 0), (8, 12, 0)]
def rlR : List (Nat × Nat × Option Nat) := [(48, 65, some 93), (48, 64, some 92), (48, 63, some 91), (48, 62, some 90), (48, 61, some 89), (48, 60, some 88), (48, 59, some 87), (48, 58, some 86), (48, 57, some 85), (48, 56, some 84), (48, 55, some 83), (48, 54, some 82), (48, 50, some 81), (48, 49, some 80), (48, 48, some 79), (48, 47, some 78), (48, 46, some 77), (48, 45, some 76), (48, 44, some 75), (48, 43, some 74), (48, 42, some 73), (48, 41, some 72), (48, 40, some 71), (48, 39, some 70), (48, 32, some 69), (48, 31, some 68), (48, 30, some 67), (48, 29, some 66), (48, 28, some 65), (48, 27, some 64), (48, 26, some 63), (48, 25, some 62), (48, 24, some 61), (48, 23, some 60), (48, 22, some 59), (48, 11, some 58), (48, 10, some 57), (48, 9, some 56), (48, 8, some 55), (48, 7, some 54), (48, 5, some 53), (48, 4, some 52), (48, 3, some 51), (48, 2, some 50), (48, 1, some 49), (8, 6, some 42), (42, 11, some 47), (42, 10, some 46), (42, 2, some 45), (42, 1, some 44), (42, 0, some 43), (8, 5, some 39), (39, 1, some 41), (39, 0, some 40), (8, 4, some 34), (34, 5, some 38), (34, 4, some 37), (34, 3, some 36), (34, 0, some 35), (8, 3, some 15), (8, 2, some 13), (13, 9, some 33), (13, 8, some 32), (13, 7, some 31), (13, 6, some 15), (15, 7, some 30), (15, 6, some 25), (25, 3, some 29), (25, 2, some 28), (25, 1, some 27), (25, 0, some 26), (15, 5, some 20), (20, 3, some 24), (20, 2, some 23), (20, 1, some 22), (20, 0, some 21), (15, 3, some 19), (15, 2, some 18), (15, 1, some 17), (15, 0, some 16), (13, 0, some 14), (8, 1, some 11), (11, 0, some 12), (8, 0, some 9), (9, 0, some 10)]
def ilR : List (Nat × Nat × Int32) := [(48, 38, 31), (48, 37, 31), (8, 7, 1), (13, 5, (-1)), (13, 4, 31)]
def tlF : List (Nat × Nat × Nat) := [(92, 100, 1024), (91, 101, 1024), (90, 101, 1024), (89, 100, 4096), (88, 101, 1024), (87, 100, 25350), (86, 100, 65), (85, 100, 8192), (84, 100, 8192), (83, 100, 6), (82, 100, 6), (81, 100, 6), (80, 100, 12288), (79, 100, 12288), (78, 100, 12288), (77, 100, 72), (76, 100, 72), (75, 100, 72), (74, 100, 12), (73, 100, 12), (72, 100, 12), (71, 100, 12), (70, 100, 12), (69, 100, 12), (68, 100, 9), (67, 100, 180), (66, 100, 12), (65, 100, 12), (64, 100, 12), (63, 100, 180), (62, 100, 12), (61, 100, 12), (60, 100, 12), (59, 100, 180), (58, 100, 180), (57, 105, 220), (56, 100, 6), (55, 100, 6), (54, 100, 6), (53, 100, 6), (52, 101, 8192), (51, 100, 128), (50, 100, 128), (49, 100, 128), (48, 100, 8), (47, 13, 0), (46, 100, 1024), (45, 100, 32), (44, 100, 6), (43, 100, 6), (42, 100, 6), (41, 9, 0), (40, 100, 100), (39, 100, 4096), (38, 11, 0), (37, 100, 32), (36, 100, 32), (35, 100, 32), (34, 110, 8), (33, 1, 0), (32, 100, 32), (31, 100, 128), (30, 100, 32), (26, 100, 9), (25, 100, 20), (24, 100, 12), (23, 100, 13), (22, 100, 160), (21, 4, 0), (20, 100, 20), (19, 100, 12), (18, 100, 13), (17, 100, 160), (16, 4, 0), (15, 100, 6), (14, 100, 6), (13, 100, 6), (12, 100, 6), (11, 3, 0), (29, 111, 12), (28, 7, 0), (93, 100, 160), (27, 5, 0), (10, 100, 220), (9, 10, 0), (8, 12, 0)]
def rlF : List (Nat × Nat × Option Nat) := [(47, 65, some 92), (47, 64, some 91), (47, 63, some 90), (47, 62, some 89), (47, 61, some 88), (47, 60, some 87), (47, 59, some 86), (47, 58, some 85), (47, 57, some 84), (47, 56, some 83), (47, 55, some 82), (47, 54, some 81), (47, 50, some 80), (47, 49, some 79), (47, 48, some 78), (47, 47, some 77), (47, 46, some 76), (47, 45, some 75), (47, 44, some 74), (47, 43, some 73), (47, 42, some 72), (47, 41, some 71), (47, 40, some 70), (47, 39, some 69), (47, 32, some 68), (47, 31, some 67), (47, 30, some 66), (47, 29, some 65), (47, 28, some 64), (47, 27, some 63), (47, 26, some 62), (47, 25, some 61), (47, 24, some 60), (47, 23, some 59), (47, 22, some 58), (47, 11, some 57), (47, 10, some 56), (47, 9, some 55), (47, 8, some 54), (47, 7, some 53), (47, 5, some 52), (47, 4, some 51), (47, 3, some 50), (47, 2, some 49), (47, 1, some 48), (8, 6, some 41), (41, 11, some 46), (41, 10, some 45), (41, 2, some 44), (41, 1, some 43), (41, 0, some 42), (8, 5, some 38), (38, 1, some 40), (38, 0, some 39), (8, 4, some 33), (33, 5, some 37), (33, 4, some 36), (33, 3, some 35), (33, 0, some 34), (8, 3, some 11), (8, 2, some 28), (28, 9, some 32), (28, 8, some 31), (28, 7, some 30), (28, 6, some 11), (11, 7, some 26), (11, 6, some 21), (21, 3, some 25), (21, 2, some 24), (21, 1, some 23), (21, 0, some 22), (11, 5, some 16), (16, 3, some 20), (16, 2, some 19), (16, 1, some 18), (16, 0, some 17), (11, 3, some 15), (11, 2, some 14), (11, 1, some 13), (11, 0, some 12), (28, 0, some 29), (8, 1, some 27), (27, 0, some 93), (8, 0, some 9), (9, 0, some 10)]
def ilF : List (Nat × Nat × Int32) := [(47, 38, 31), (47, 37, 31), (8, 7, 1), (28, 5, (-1)), (28, 4, 31)]
/-- the order of making of a name, and the name of what is made at a place in it -/
def sgm (k : Nat) : Nat := if k = 27 then 11 else if k = 93 then 12 else if k = 28 then 13 else if k = 29 then 14 else if 11 ≤ k ∧ k ≤ 26 then k + 4 else if 30 ≤ k ∧ k ≤ 92 then k + 1 else k
def tau (k : Nat) : Nat := if k = 11 then 27 else if k = 12 then 93 else if k = 13 then 28 else if k = 14 then 29 else if 15 ≤ k ∧ k ≤ 30 then k - 4 else if 31 ≤ k ∧ k ≤ 93 then k - 1 else k
theorem sg_c (k r : Nat) (e : sgm k = r) : (k = 27 ∧ r = 11) ∨ (k = 93 ∧ r = 12) ∨ (k = 28 ∧ r = 13) ∨ (k = 29 ∧ r = 14) ∨ (11 ≤ k ∧ k ≤ 26 ∧ r = k + 4) ∨ (30 ≤ k ∧ k ≤ 92 ∧ r = k + 1) ∨ ((k < 11 ∨ 93 < k) ∧ r = k) := by
  unfold sgm at e
  repeat' (split at e)
  all_goals omega
theorem ta_c (k r : Nat) (e : tau k = r) : (k = 11 ∧ r = 27) ∨ (k = 12 ∧ r = 93) ∨ (k = 13 ∧ r = 28) ∨ (k = 14 ∧ r = 29) ∨ (15 ≤ k ∧ k ≤ 30 ∧ r = k - 4) ∨ (31 ≤ k ∧ k ≤ 93 ∧ r = k - 1) ∨ ((k < 11 ∨ 93 < k) ∧ r = k) := by
  unfold tau at e
  repeat' (split at e)
  all_goals omega
theorem sg_ta (k : Nat) : sgm (tau k) = k := by
  have h1 := ta_c k _ rfl
  have h2 := sg_c (tau k) _ rfl
  omega
theorem ta_sg (k : Nat) : tau (sgm k) = k := by
  have h1 := sg_c k _ rfl
  have h2 := ta_c (sgm k) _ rfl
  omega
theorem tlF_eq : tlF = tlR.map (fun q => (tau q.1, q.2)) := by decide +kernel
theorem rlF_eq : rlF = rlR.map (fun q => (tau q.1, q.2.1, q.2.2.map tau)) := by decide +kernel
theorem ilF_eq : ilF = ilR.map (fun q => (tau q.1, q.2)) := by decide +kernel
theorem lkT_m {TL : List (Nat × Nat × Nat)} (a : Nat) : lkT (TL.map (fun q => (tau q.1, q.2))) a = lkT TL (sgm a) := by
  induction TL with
  | nil => rfl
  | cons q l ih =>
    show (if a = tau q.1 then q.2 else lkT (l.map (fun q => (tau q.1, q.2))) a) = if sgm a = q.1 then q.2 else lkT l (sgm a)
    rw [ih]
    by_cases z : a = tau q.1
    · rw [if_pos z, if_pos (by rw [z, sg_ta])]
    · rw [if_neg z, if_neg (fun w => z (by rw [← w, ta_sg]))]
theorem lkR_m {RL : List (Nat × Nat × Option Nat)} (a k : Nat) : lkR (RL.map (fun q => (tau q.1, q.2.1, q.2.2.map tau))) a k = (lkR RL (sgm a) k).map tau := by
  induction RL with
  | nil => rfl
  | cons q l ih =>
    show (if a = tau q.1 ∧ k = q.2.1 then q.2.2.map tau else lkR (l.map (fun q => (tau q.1, q.2.1, q.2.2.map tau))) a k) = (if sgm a = q.1 ∧ k = q.2.1 then q.2.2 else lkR l (sgm a) k).map tau
    rw [ih]
    by_cases z : a = tau q.1 ∧ k = q.2.1
    · rw [if_pos z, if_pos ⟨by rw [z.1, sg_ta], z.2⟩]
    · rw [if_neg z, if_neg (fun w => z ⟨by rw [← w.1, ta_sg], w.2⟩)]
theorem lkI_m {IL : List (Nat × Nat × Int32)} (a k : Nat) : lkI (IL.map (fun q => (tau q.1, q.2))) a k = lkI IL (sgm a) k := by
  induction IL with
  | nil => rfl
  | cons q l ih =>
    show (if a = tau q.1 ∧ k = q.2.1 then q.2.2 else lkI (l.map (fun q => (tau q.1, q.2))) a k) = if sgm a = q.1 ∧ k = q.2.1 then q.2.2 else lkI l (sgm a) k
    rw [ih]
    by_cases z : a = tau q.1 ∧ k = q.2.1
    · rw [if_pos z, if_pos ⟨by rw [z.1, sg_ta], z.2⟩]
    · rw [if_neg z, if_neg (fun w => z ⟨by rw [← w.1, ta_sg], w.2⟩)]
theorem bld.rn {h : mH} (b : bld h 94 tlR rlR ilR) : bld (hRn sgm tau h) 94 tlF rlF ilF := by
  obtain ⟨b1, b2, b3, b4, -, -, -⟩ := b
  refine ⟨b1, fun a => ?_, fun a k => ?_, fun a k => ?_, by decide +kernel, by decide +kernel, by decide +kernel⟩
  · rw [tlF_eq, lkT_m]; exact b2 (sgm a)
  · rw [rlF_eq, lkR_m, ← b3 (sgm a) k]; rfl
  · rw [ilF_eq, lkI_m]; exact b4 (sgm a) k
theorem ok_rn : okRn sgm tau 94 := by
  refine ⟨sg_ta, ta_sg, fun k hk => ?_, fun k hk => ?_⟩
  · unfold sgm
    repeat' split
    all_goals omega
  · unfold sgm
    repeat' split
    all_goals omega
