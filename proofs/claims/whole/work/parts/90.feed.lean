/-! feed (both) -/
def tbN (v : Int32) (i : Nat) : Nat := uU v / 2 ^ (24 - 8 * i) % 256
theorem tbN_lt (v : Int32) (i : Nat) : tbN v i < 256 := Nat.mod_lt _ (by omega)
theorem tBy_n (v : Int32) {i : Nat} (hi : i < 4) : tBy v i = nI (tbN v i) := by
  unfold tBy tbN
  rw [pk_and _ 8 (by decide)]
  have := uU_ushr (24 - 8 * i) (by omega) v
  unfold uU at this ⊢
  rw [this]
theorem bt_shrI (x : Int32) {n i : Nat} (hn : n < 32) (h : n + i < 32) : bt (m_shr x (nI n)) i = bt x (n + i) := by
  unfold m_shr bt
  rw [Int32.toBitVec_shiftRight, BitVec.sshiftRight_eq', bt_amt n hn, BitVec.getLsbD_sshiftRight]
  simp [show ¬ 32 ≤ i by omega, h]
theorem sb_shr (v : Int32) {s : Nat} (hs : s ≤ 24) : (m_shr v (nI s)).toInt8.toInt32 = sb8 (uU v / 2 ^ s % 256) := by
  unfold sb8
  congr 1
  apply Int8.toBitVec_inj.mp
  rw [Int32.toBitVec_toInt8, Int32.toBitVec_toInt8]
  apply BitVec.eq_of_getLsbD_eq
  intro i hi
  rw [BitVec.getLsbD_signExtend, BitVec.getLsbD_signExtend, if_pos (show i < 32 by omega), if_pos (show i < 32 by omega)]
  have h1 := bt_shrI v (n := s) (i := i) (by omega) (by omega)
  unfold bt at h1
  rw [h1]
  have h2 : (nI (uU v / 2 ^ s % 256)).toBitVec = BitVec.ofNat 32 (uU v / 2 ^ s % 256) := rfl
  have h3 : (BitVec.ofNat 32 (uU v / 2 ^ s % 256)).getLsbD i = v.toBitVec.getLsbD (s + i) := by
    rw [BitVec.getLsbD_ofNat, show 256 = 2 ^ 8 from rfl, Nat.testBit_mod_two_pow, Nat.testBit_div_two_pow]
    unfold uU
    rw [BitVec.testBit_toNat, Nat.add_comm]
    simp [hi, show i < 32 by omega]
  rw [h2, h3]
theorem sb_idem (v : Int32) : v.toInt8.toInt32.toInt8.toInt32 = v.toInt8.toInt32 := by
  congr 1
  apply Int8.toBitVec_inj.mp
  rw [Int32.toBitVec_toInt8, Int8.toBitVec_toInt32]
  apply BitVec.eq_of_getLsbD_eq
  intro i hi
  rw [BitVec.getLsbD_signExtend, if_pos (show i < 32 by omega), BitVec.getLsbD_signExtend, if_pos hi]
  simp [hi, show i < 32 by omega]
def aTpM : Nat → Nat → Prop := fun a k => a = 57 ∨ (a = 47 ∧ k = 12)
section
variable {G : mG} {d : Nat} {b : Nat × Nat} {h : mH} {Q : Option mV → mH → Prop}
theorem m_types (v : Int32) (n : Nat) (hS : mSk h) (hn : mI h 47 12 = nI n) (hn2 : n + 4 ≤ 220)
    (K : ∀ h', mFr2 aTpM h h' → mI h' 47 12 = nI (n + 4) → (∀ j, mI h' 57 j = if n ≤ j ∧ j < n + 4 then sb8 (tbN v (j - n)) else mI h 57 j) → Q none h') : mC G kX12_types d b [.inr (some 47), .inl v] h Q := by
  refine qX12_types v hS ?_
  refine mloop (W := fun i h1 => mW G kX12_types d b 2 [some (.inr (some 47)), some (.inl v), some (.inl (iI (3 - i)))] [] h1 Q)
    (P := fun i h1 => mFr2 aTpM h h1 ∧ mI h1 47 12 = nI (n + i) ∧ ∀ j, mI h1 57 j = if n ≤ j ∧ j < n + i then sb8 (tbN v (j - n)) else mI h 57 j) 4 ?_ ?_ 0 h (by omega) ⟨mFr2.rf, by simpa using hn, fun j => by rw [if_neg (by omega)]⟩
  · rintro i h1 hi ⟨f1, s1, c1⟩ ih
    have hS1 := f1.1.sk hS
    refine qX12_types_2 v _ hS1 ⟨fun z => ?_, fun _ => ⟨?_, fun h2 e2 h3 e3 => ?_⟩⟩
    · rw [show (0 : Int32) = iI 0 from rfl, ii_lt ⟨by omega, by omega⟩ ⟨by omega, by omega⟩] at z
      omega
    · rw [s1]; exact vp_in_nI (by omega) (by omega)
    · subst e2
      subst e3
      rw [show iI (3 - (i : Int)) + (-1) = iI (3 - ((i + 1 : Nat) : Int)) by
        rw [show (-1 : Int32) = iI (-1) from rfl, ii_add]; congr 1; omega]
      refine ih _ ⟨(f1.tr (mFr2.SI (Or.inl rfl))).tr (mFr2.SI (Or.inr ⟨rfl, rfl⟩)), ?_, fun j => ?_⟩
      · rw [mI_SI_s, mI_SI_a (by decide), s1, nI_1]
        rfl
      · rw [mI_SI_a (by decide), mI_SI, s1, nI_clamp (by omega), c1 j]
        by_cases hj : j = n + i
        · rw [if_pos ⟨rfl, hj⟩, if_pos (by omega), hj, show n + i - n = i by omega, sb_idem]
          have e8 : (8 : Int32) * iI (3 - (i : Int)) = nI (24 - 8 * i) := by
            rw [show (8 : Int32) = iI 8 from rfl, ii_mul, ii_nat]; congr 1; omega
          rw [e8, sb_shr v (by omega)]
          rfl
        · rw [if_neg (by omega)]
          by_cases h5 : n ≤ j ∧ j < n + i
          · rw [if_pos h5, if_pos (by omega)]
          · rw [if_neg h5, if_neg (by omega)]
  · rintro h1 ⟨f1, s1, c1⟩
    refine qX12_types_2 v _ (f1.1.sk hS) ⟨fun _ => K h1 f1 s1 c1, fun z => absurd ?_ z⟩
    decide
/-- the bytes that a feed brings, as numbers -/
def tFn (a b c d e : Int32) (i : Nat) : Nat := tbN (if i < 4 then a else if i < 8 then b else if i < 12 then c else if i < 16 then d else e) (i % 4)
theorem tFd_n (a b c d e : Int32) (i : Nat) : tFd a b c d e i = nI (tFn a b c d e i) := tBy_n _ (by omega)
theorem m_feed0 (v1 v2 v3 v4 v5 : Int32) (n : Nat) (hS : mSk h) (hn : mI h 47 12 = nI n) (hn2 : n ≤ 220)
    (K1 : 200 < n → Q (some (.inl (-1))) h)
    (K2 : n ≤ 200 → ∀ h', mFr2 aTpM h h' → mI h' 47 12 = nI (n + 20) → (∀ j, mI h' 57 j = if n ≤ j ∧ j < n + 20 then sb8 (tFn v1 v2 v3 v4 v5 (j - n)) else mI h 57 j) → Q (some (.inl (nI (n + 20)))) h') : mC G kX12_feed (d + 1) b [.inr (some 47), .inl v1, .inl v2, .inl v3, .inl v4, .inl v5] h Q := by
  refine qX12_feed v1 v2 v3 v4 v5 hS ⟨fun z => ?_, fun z => K1 ?_⟩
  · have hn3 : n ≤ 200 := by
      rw [hn, show (20 : Int32) = nI 20 from rfl, nI_add, show (220 : Int32) = nI 220 from rfl, nI_leI (by omega) (by omega)] at z
      omega
    refine m_types v1 n hS hn (by omega) (fun h1 f1 s1 c1 => ⟨rfl, f1.1.sk hS, ?_⟩)
    refine m_types v2 (n + 4) (f1.1.sk hS) s1 (by omega) (fun h2 f2 s2 c2 => ⟨rfl, (f1.tr f2).1.sk hS, ?_⟩)
    refine m_types v3 (n + 8) ((f1.tr f2).1.sk hS) s2 (by omega) (fun h3 f3 s3 c3 => ⟨rfl, ((f1.tr f2).tr f3).1.sk hS, ?_⟩)
    refine m_types v4 (n + 12) (((f1.tr f2).tr f3).1.sk hS) s3 (by omega) (fun h4 f4 s4 c4 => ⟨rfl, (((f1.tr f2).tr f3).tr f4).1.sk hS, ?_⟩)
    refine m_types v5 (n + 16) ((((f1.tr f2).tr f3).tr f4).1.sk hS) s4 (by omega) (fun h5 f5 s5 c5 => ⟨rfl, ((((f1.tr f2).tr f3).tr f4).tr f5).1.sk hS, ?_⟩)
    rw [s5]
    refine K2 hn3 h5 ((((f1.tr f2).tr f3).tr f4).tr f5) s5 (fun j => ?_)
    rw [c5, c4, c3, c2, c1]
    unfold tFn
    by_cases g1 : n ≤ j ∧ j < n + 20
    · rw [if_pos g1]
      by_cases g5 : n + 16 ≤ j
      · rw [if_pos (by omega), if_neg (by omega), if_neg (by omega), if_neg (by omega), if_neg (by omega), show (j - n) % 4 = j - (n + 16) by omega]
      · rw [if_neg (by omega)]
        by_cases g4 : n + 12 ≤ j
        · rw [if_pos (by omega), if_neg (by omega), if_neg (by omega), if_neg (by omega), if_pos (by omega), show (j - n) % 4 = j - (n + 12) by omega]
        · rw [if_neg (by omega)]
          by_cases g3 : n + 8 ≤ j
          · rw [if_pos (by omega), if_neg (by omega), if_neg (by omega), if_pos (by omega), show (j - n) % 4 = j - (n + 8) by omega]
          · rw [if_neg (by omega)]
            by_cases g2 : n + 4 ≤ j
            · rw [if_pos (by omega), if_neg (by omega), if_pos (by omega), show (j - n) % 4 = j - (n + 4) by omega]
            · rw [if_neg (by omega), if_pos (by omega), if_pos (by omega), show (j - n) % 4 = j - n by omega]
    · rw [if_neg g1, if_neg (by omega), if_neg (by omega), if_neg (by omega), if_neg (by omega), if_neg (by omega)]
  · rw [hn, show (20 : Int32) = nI 20 from rfl, nI_add, show (220 : Int32) = nI 220 from rfl, nI_leI (by omega) (by omega)] at z
    omega
/-- the tape with twenty more bytes -/
def tpF (n : Nat) (t : Nat → Nat) (a b c d e : Int32) (j : Nat) : Nat := if j < n then t j else tFn a b c d e (j - n)
theorem c_feed (v1 v2 v3 v4 v5 : Int32) {n : Nat} {t : Nat → Nat} (hS : mSk h) (hT : tpX h n t) (K1 : 200 < n → Q (some (.inl (-1))) h)
    (K2 : n ≤ 200 → ∀ h', mFr2 aTape h h' → tpX h' (n + 20) (tpF n t v1 v2 v3 v4 v5) → Q (some (.inl (nI (n + 20)))) h') : mC G kX11_feed (d + 1) b [.inr (some 8), .inl v1, .inl v2, .inl v3, .inl v4, .inl v5] h Q := by
  obtain ⟨t1, t2, t3⟩ := hT
  refine c11_feed v1 v2 v3 v4 v5 n hS t1 t2 K1 (fun hn h' f s c => K2 hn h' f ⟨s, by omega, fun j hj => ?_⟩)
  rw [c j]
  unfold tpF
  by_cases z : j < n
  · rw [if_pos z, if_neg (by omega)]; exact t3 j z
  · rw [if_neg z, if_pos (by omega), tFd_n]
    exact ⟨tbN_lt _ _, rfl⟩
theorem m_feed (v1 v2 v3 v4 v5 : Int32) {n : Nat} {t : Nat → Nat} (hS : mSk h) (hT : tpM h n t) (K1 : 200 < n → Q (some (.inl (-1))) h)
    (K2 : n ≤ 200 → ∀ h', mFr2 aTpM h h' → tpM h' (n + 20) (tpF n t v1 v2 v3 v4 v5) → Q (some (.inl (nI (n + 20)))) h') : mC G kX12_feed (d + 1) b [.inr (some 47), .inl v1, .inl v2, .inl v3, .inl v4, .inl v5] h Q := by
  obtain ⟨t1, t2, t3⟩ := hT
  refine m_feed0 v1 v2 v3 v4 v5 n hS t1 t2 K1 (fun hn h' f s c => K2 hn h' f ⟨s, by omega, fun j hj => ?_⟩)
  rw [c j]
  unfold tpF
  by_cases z : j < n
  · rw [if_pos z, if_neg (by omega)]; exact t3 j z
  · rw [if_neg z, if_pos (by omega)]
    exact ⟨tbN_lt _ _, rfl⟩
end
