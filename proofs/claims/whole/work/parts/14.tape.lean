/-! THE TAPE -/
def tBy (v : Int32) (i : Nat) : Int32 := (m_ushr v (nI (24 - 8 * i))) &&& 255
def aTape : Nat → Nat → Prop := fun a k => a = 10 ∨ (a = 9 ∧ k = 1)
set_option maxHeartbeats 1000000 in
theorem c9_put {G : mG} {d : Nat} {b : Nat × Nat} {h : mH} {Q : Option mV → mH → Prop} (v : Int32) (n : Nat) (hS : mSk h) (hn : mI h 9 1 = nI n) (hn2 : n + 4 ≤ 220)
    (K : ∀ h', mFr2 aTape h h' → mI h' 9 1 = nI (n + 4) → (∀ j, mI h' 10 j = if n ≤ j ∧ j < n + 4 then tBy v (j - n) else mI h 10 j) → Q none h') : mC G kX9_put d b [.inr (some 9), .inl v] h Q := by
  refine qX9_put v hS ?_
  refine mloop (W := fun i h1 => mW G kX9_put d b 3 [some (.inr (some 9)), some (.inl v), some (.inl (iI (24 - 8 * i)))] [] h1 Q)
    (P := fun i h1 => mFr2 aTape h h1 ∧ mI h1 9 1 = nI (n + i) ∧ ∀ j, mI h1 10 j = if n ≤ j ∧ j < n + i then tBy v (j - n) else mI h 10 j) 4 ?_ ?_ 0 h (by omega) ⟨mFr2.rf, by simpa using hn, fun j => by rw [if_neg (by omega)]⟩
  · rintro i h1 hi ⟨f1, s1, c1⟩ ih
    have hS1 := f1.1.sk hS
    refine qX9_put_3 v _ hS1 ⟨fun z => ?_, fun _ => ⟨fun z => ?_, fun _ => ⟨?_, fun h2 e2 h3 e3 => ?_⟩⟩⟩
    · rw [show (0 : Int32) = iI 0 from rfl, ii_lt ⟨by omega, by omega⟩ ⟨by omega, by omega⟩] at z
      omega
    · rw [s1, nI_leI (by omega) (by omega)] at z
      omega
    · rw [s1]; exact vp_in_nI (by omega) (by omega)
    · subst e2
      subst e3
      rw [show iI (24 - 8 * (i : Int)) + (-8) = iI (24 - 8 * ((i + 1 : Nat) : Int)) by
        rw [show (-8 : Int32) = iI (-8) from rfl, ii_add]; congr 1; omega]
      refine ih _ ⟨(f1.tr (mFr2.SI (Or.inl rfl))).tr (mFr2.SI (Or.inr ⟨rfl, rfl⟩)), ?_, fun j => ?_⟩
      · rw [mI_SI_s, mI_SI_a (by decide), s1, nI_1]
        rfl
      · rw [mI_SI_a (by decide), mI_SI, s1, nI_clamp (by omega), c1 j]
        by_cases hj : j = n + i
        · rw [if_pos ⟨rfl, hj⟩, if_pos (by omega), hj, show n + i - n = i by omega]
          unfold tBy
          rw [ii_nat, show ((24 - 8 * i : Nat) : Int) = 24 - 8 * (i : Int) by omega]
        · rw [if_neg (by omega)]
          by_cases h5 : n ≤ j ∧ j < n + i
          · rw [if_pos h5, if_pos (by omega)]
          · rw [if_neg h5, if_neg (by omega)]
  · rintro h1 ⟨f1, s1, c1⟩
    refine qX9_put_3 v _ (f1.1.sk hS) ⟨fun _ => K h1 f1 s1 c1, fun z => absurd ?_ z⟩
    decide
/-- the bytes that a feed brings -/
def tFd (a b c d e : Int32) (i : Nat) : Int32 := tBy (if i < 4 then a else if i < 8 then b else if i < 12 then c else if i < 16 then d else e) (i % 4)
theorem c11_feed {G : mG} {d : Nat} {b : Nat × Nat} {h : mH} {Q : Option mV → mH → Prop} (v1 v2 v3 v4 v5 : Int32) (n : Nat) (hS : mSk h) (hn : mI h 9 1 = nI n) (hn2 : n ≤ 220)
    (K1 : 200 < n → Q (some (.inl (-1))) h)
    (K2 : n ≤ 200 → ∀ h', mFr2 aTape h h' → mI h' 9 1 = nI (n + 20) → (∀ j, mI h' 10 j = if n ≤ j ∧ j < n + 20 then tFd v1 v2 v3 v4 v5 (j - n) else mI h 10 j) → Q (some (.inl (nI (n + 20)))) h') : mC G kX11_feed (d + 1) b [.inr (some 8), .inl v1, .inl v2, .inl v3, .inl v4, .inl v5] h Q := by
  refine qX11_feed v1 v2 v3 v4 v5 hS ⟨fun z => ?_, fun z => K1 ?_⟩
  · have hn3 : n ≤ 200 := by
      rw [hn, show (20 : Int32) = nI 20 from rfl, nI_add, show (220 : Int32) = nI 220 from rfl, nI_leI (by omega) (by omega)] at z
      omega
    refine c9_put v1 n hS hn (by omega) (fun h1 f1 s1 c1 => ⟨rfl, f1.1.sk hS, ?_⟩)
    refine c9_put v2 (n + 4) (f1.1.sk hS) s1 (by omega) (fun h2 f2 s2 c2 => ⟨rfl, (f1.tr f2).1.sk hS, ?_⟩)
    refine c9_put v3 (n + 8) ((f1.tr f2).1.sk hS) s2 (by omega) (fun h3 f3 s3 c3 => ⟨rfl, ((f1.tr f2).tr f3).1.sk hS, ?_⟩)
    refine c9_put v4 (n + 12) (((f1.tr f2).tr f3).1.sk hS) s3 (by omega) (fun h4 f4 s4 c4 => ⟨rfl, (((f1.tr f2).tr f3).tr f4).1.sk hS, ?_⟩)
    refine c9_put v5 (n + 16) ((((f1.tr f2).tr f3).tr f4).1.sk hS) s4 (by omega) (fun h5 f5 s5 c5 => ⟨rfl, ((((f1.tr f2).tr f3).tr f4).tr f5).1.sk hS, ?_⟩)
    rw [s5]
    refine K2 hn3 h5 ((((f1.tr f2).tr f3).tr f4).tr f5) s5 (fun j => ?_)
    rw [c5, c4, c3, c2, c1]
    unfold tFd
    by_cases g1 : n ≤ j ∧ j < n + 20
    · rw [if_pos g1]
      by_cases g5 : n + 16 ≤ j
      · rw [if_pos (by omega), if_neg (by omega), if_neg (by omega), if_neg (by omega), if_neg (by omega), show (j - n) % 4 = j - (n + 16) by omega]
      · rw [if_neg (by omega)]
        by_cases g4 : n + 12 ≤ j
        · rw [if_pos (by omega), if_neg (by omega), if_neg (by omega), if_neg (by omega), if_pos (by omega), show (j - n) % 4 = j - (n + 12) by omega]
        · rw [if_neg (by omega)]
          by_cases g3 : n + 8 ≤ j
          · rw [if_pos (by omega), if_neg (by omega), if_neg (by omega), if_pos (by omega), show (j - n) % 4 = j - (n + 8) by omega]
          · rw [if_neg (by omega)]
            by_cases g2 : n + 4 ≤ j
            · rw [if_pos (by omega), if_neg (by omega), if_pos (by omega), show (j - n) % 4 = j - (n + 4) by omega]
            · rw [if_neg (by omega), if_pos (by omega), if_pos (by omega), show (j - n) % 4 = j - n by omega]
    · rw [if_neg g1, if_neg (by omega), if_neg (by omega), if_neg (by omega), if_neg (by omega), if_neg (by omega)]
  · rw [hn, show (20 : Int32) = nI 20 from rfl, nI_add, show (220 : Int32) = nI 220 from rfl, nI_leI (by omega) (by omega)] at z
    omega
