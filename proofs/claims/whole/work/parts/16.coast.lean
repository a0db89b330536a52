/-! COASTS: a ring, its land -/
def nxt (n i : Nat) : Nat := if i + 1 = n then 0 else i + 1
def btw (v a b : Nat) : Bool := decide (a ≤ v) ^^ decide (b ≤ v)
def xorN (p : Nat → Bool) : Nat → Bool
  | 0 => false
  | n + 1 => xorN p n ^^ p n
def b2i (x : Bool) : Int32 := if x then 1 else 0
theorem b2i_0 {x : Bool} : b2i x = 0 ↔ x = false := by cases x <;> decide
theorem b2i_1 {x : Bool} : b2i x = 1 ↔ x = true := by cases x <;> decide
theorem b2i_b (x : Bool) : m_bool (b2i x) := by cases x <;> first | exact Or.inl rfl | exact Or.inr rfl
theorem xorN_cong {p q : Nat → Bool} : ∀ n, (∀ i, i < n → p i = q i) → xorN p n = xorN q n
  | 0, _ => rfl
  | n + 1, h => by rw [xorN, xorN, xorN_cong n (fun i hi => h i (by omega)), h n (by omega)]
theorem xorN_xor (p q : Nat → Bool) : ∀ n, (xorN p n ^^ xorN q n) = xorN (fun i => p i ^^ q i) n
  | 0 => rfl
  | n + 1 => by
    have := xorN_xor p q n
    rw [xorN, xorN, xorN, ← this]
    cases xorN p n <;> cases xorN q n <;> cases p n <;> cases q n <;> rfl
theorem xorN_tel (g : Nat → Bool) : ∀ n, xorN (fun i => g i ^^ g (i + 1)) n = (g 0 ^^ g n)
  | 0 => by simp [xorN]
  | n + 1 => by
    rw [xorN, xorN_tel g n]
    cases g 0 <;> cases g n <;> cases g (n + 1) <;> rfl
theorem xorN_ring (g : Nat → Bool) {n : Nat} (h : 0 < n) : xorN (fun i => g i ^^ g (nxt n i)) n = false := by
  obtain ⟨m, rfl⟩ : ∃ m, n = m + 1 := ⟨n - 1, by omega⟩
  have hc : ∀ i, i < m → (fun i => g i ^^ g (nxt (m + 1) i)) i = (fun i => g i ^^ g (i + 1)) i := fun i hi => by
    have hne : ¬ i + 1 = m + 1 := by omega
    have e : nxt (m + 1) i = i + 1 := if_neg hne
    show (g i ^^ g (nxt (m + 1) i)) = (g i ^^ g (i + 1))
    rw [e]
  have e0 : nxt (m + 1) m = 0 := if_pos rfl
  have h1 : xorN (fun i => g i ^^ g (nxt (m + 1) i)) (m + 1) = (xorN (fun i => g i ^^ g (nxt (m + 1) i)) m ^^ (g m ^^ g (nxt (m + 1) m))) := rfl
  have h2 := xorN_cong m hc
  have h3 := xorN_tel g m
  rw [h1, h2, h3, e0]
  generalize g 0 = u
  generalize g m = v
  revert u v
  decide
abbrev aCo : Type := Nat × (Nat → Nat) × (Nat → Nat) × (Nat → Nat)
def cN (C : aCo) : Nat := C.1
def cX (C : aCo) : Nat → Nat := C.2.1
def cY (C : aCo) : Nat → Nat := C.2.2.1
def cS (C : aCo) : Nat → Nat := C.2.2.2
def coT (C : aCo) (x y i : Nat) : Bool := decide (i % 2 = 1) && (decide (cX C i ≤ x) && btw y (cY C i) (cY C (nxt (cN C) i)))
def coU (C : aCo) (x y i : Nat) : Bool := decide (i % 2 = 0) && (decide (cY C i ≤ y) && btw x (cX C i) (cX C (nxt (cN C) i)))
/-- LAND -/
def coLand (C : aCo) (x y : Nat) : Bool := xorN (coT C x y) (cN C)
/-- how a side must go on -/
def coSd (C : aCo) (i : Nat) : Prop := if i % 2 = 0 then cY C i = cY C (nxt (cN C) i) ∧ cX C i ≠ cX C (nxt (cN C) i) else cX C i = cX C (nxt (cN C) i) ∧ cY C i ≠ cY C (nxt (cN C) i)
def okRing (C : aCo) : Prop := (4 ≤ cN C ∧ cN C ≤ 16 ∧ cN C % 2 = 0) ∧ ∀ i, i < cN C → (cX C i ≤ 32 ∧ cY C i ≤ 32 ∧ cS C i ≤ 2) ∧ coSd C i
theorem coLand_col {C : aCo} (ok : okRing C) (x y : Nat) : coLand C x y = xorN (coU C x y) (cN C) := by
  have h : (xorN (coT C x y) (cN C) ^^ xorN (coU C x y) (cN C)) = false := by
    rw [xorN_xor]
    rw [xorN_cong (q := fun i => (decide (cX C i ≤ x) && decide (cY C i ≤ y)) ^^ (decide (cX C (nxt (cN C) i) ≤ x) && decide (cY C (nxt (cN C) i) ≤ y)))]
    · exact xorN_ring (fun i => decide (cX C i ≤ x) && decide (cY C i ≤ y)) (by have := ok.1.1; omega)
    · intro i hi
      have hs := (ok.2 i hi).2
      unfold coSd at hs
      unfold coT coU btw
      by_cases hp : i % 2 = 0
      · rw [if_pos hp] at hs
        rw [← hs.1]
        simp only [hp]
        cases decide (cX C i ≤ x) <;> cases decide (cY C i ≤ y) <;> cases decide (cX C (nxt (cN C) i) ≤ x) <;> rfl
      · rw [if_neg hp] at hs
        rw [← hs.1]
        have hp1 : i % 2 = 1 := by omega
        simp only [hp1]
        cases decide (cX C i ≤ x) <;> cases decide (cY C i ≤ y) <;> cases decide (cY C (nxt (cN C) i) ≤ y) <;> rfl
  unfold coLand
  cases h1 : xorN (coT C x y) (cN C) <;> cases h2 : xorN (coU C x y) (cN C) <;> rw [h1, h2] at h <;> first | rfl | cases h
/-! the model's land -/
def mCoM (h : mH) (c : Nat) (C : aCo) : Prop := mI h 48 c = nI (cN C) ∧ ∀ i, i < cN C → mI h 49 (16 * c + i) = nI (cX C i) ∧ mI h 50 (16 * c + i) = nI (cY C i) ∧ mI h 51 (16 * c + i) = nI (cS C i)
def smCo (C : aCo) : Prop := (cN C ≤ 16 ∧ cN C % 2 = 0) ∧ ∀ i, i < cN C → cX C i ≤ 32 ∧ cY C i ≤ 32
theorem okRing.sm {C : aCo} (h : okRing C) : smCo C := ⟨⟨h.1.2.1, h.1.2.2⟩, fun i hi => ⟨(h.2 i hi).1.1, (h.2 i hi).1.2.1⟩⟩
theorem nxt_lt {n i : Nat} (h : i < n) : nxt n i < n := by unfold nxt; split <;> omega
theorem L16 : (16 : Int32) = nI 16 := rfl
theorem L1024 : (1024 : Int32) = nI 1024 := rfl
theorem L32 : (32 : Int32) = nI 32 := rfl
theorem f_btw {v a b : Nat} (hv : v < 2147483648) (ha : a < 2147483648) (hb : b < 2147483648) : f_X12_isBetween (nI v) (nI a) (nI b) = 0 ↔ btw v a b = false := by
  unfold f_X12_isBetween btw
  simp only [nI_ltI (show v < 2 ^ 31 by simpa using hv) (show a < 2 ^ 31 by simpa using ha), nI_ltI (show v < 2 ^ 31 by simpa using hv) (show b < 2 ^ 31 by simpa using hb), nI_leI (show a < 2 ^ 31 by simpa using ha) (show v < 2 ^ 31 by simpa using hv), nI_leI (show b < 2 ^ 31 by simpa using hb) (show v < 2 ^ 31 by simpa using hv), nI_leI (show b < 2 ^ 31 by simpa using hb) (show a < 2 ^ 31 by simpa using ha), nI_ltI (show a < 2 ^ 31 by simpa using ha) (show b < 2 ^ 31 by simpa using hb)]
  by_cases h1 : a ≤ v <;> by_cases h2 : b ≤ v <;> by_cases h3 : b ≤ a <;> simp [h1, h2, h3] <;> omega
section
variable {G : mG} {d : Nat} {b : Nat × Nat} {h : mH} {Q : Option mV → mH → Prop}
theorem m_next0 {c i : Nat} {C : aCo} (hS : mSk h) (hc : c < 8) (hC : mCoM h c C) (sm : smCo C) (hi : i < cN C) (K : Q (some (.inl (nI (16 * c + nxt (cN C) i)))) h) : mC G kX12_next0 d b [.inr (some 47), .inl (nI c), .inl (nI i)] h Q := by
  have := sm.1.1
  refine qX12_next0 _ _ hS ⟨vp_in_nI hc (by omega), fun w hw => ?_⟩
  rw [nI_clamp (by omega), hC.1, nI_1] at hw
  have he : nI (i + 1) = nI (cN C) ↔ i + 1 = cN C := nI_eq (by omega) (by omega)
  have hw2 : w = nI (nxt (cN C) i) := by
    rw [hw]; unfold nxt
    by_cases hx : i + 1 = cN C
    · rw [if_neg (fun z => z (he.mpr hx)), if_pos hx]; rfl
    · rw [if_pos (fun z => hx (he.mp z)), if_neg hx]
  rw [hw2, L16, pk_mul, nI_add]
  exact K
def aIsl (c : Nat) : Nat → Nat → Prop := fun a k => a = 52 ∧ 1024 * c ≤ k ∧ k < 1024 * c + 1024
set_option maxHeartbeats 1000000 in
theorem m_laysLand {c : Nat} {C : aCo} (hS : mSk h) (hc : c < 8) (hC : mCoM h c C) (sm : smCo C) (K : ∀ h', mFr2 (aIsl c) h h' → (∀ k, k < 1024 → mI h' 52 (1024 * c + k) = b2i (coLand C (k % 32) (k / 32))) → Q none h') : mC G kX12_laysLand (d + 1) b [.inr (some 47), .inl (nI c)] h Q := by
  refine qX12_laysLand _ hS ?_
  have h16 := sm.1.1
  have hev := sm.1.2
  refine mloop (W := fun k h1 => mW G kX12_laysLand (d + 1) b 2 [some (.inr (some 47)), some (.inl (nI c)), some (.inl (nI k)), none, none, none, none] [] h1 Q)
    (P := fun k h1 => mFr2 (aIsl c) h h1 ∧ ∀ j, j < k → mI h1 52 (1024 * c + j) = b2i (coLand C (j % 32) (j / 32))) 1024 ?_ ?_ 0 h (by omega) ⟨mFr2.rf, fun j hj => by omega⟩
  · rintro k h1 hk ⟨f1, c1⟩ ih
    have hS1 := f1.1.sk hS
    have hC1 : mCoM h1 c C := ⟨by rw [f1.2 48 c (fun z => by have := z.1; omega)]; exact hC.1, fun i hi => by
      rw [f1.2 49 _ (fun z => by have := z.1; omega), f1.2 50 _ (fun z => by have := z.1; omega), f1.2 51 _ (fun z => by have := z.1; omega)]; exact hC.2 i hi⟩
    refine qX12_laysLand_2 _ _ hS1 ⟨fun z => ?_, fun _ => ?_⟩
    · rw [L1024, nI_leI (by omega) (by omega)] at z; omega
    · rw [L32, ii_rem (by omega) (by omega) (by omega), ii_div (by omega) (by omega) (by omega)]
      refine mloop (W := fun m h2 => mW G kX12_laysLand (d + 1) b 26 [some (.inr (some 47)), some (.inl (nI c)), some (.inl (nI k)), some (.inl (nI (k % 32))), some (.inl (nI (k / 32))), some (.inl (b2i (xorN (coT C (k % 32) (k / 32)) (2 * m)))), some (.inl (nI (2 * m + 1)))] [] h2 Q) (P := fun m h2 => h2 = h1) (cN C / 2) ?_ ?_ 0 h1 (by omega) rfl
      · rintro m h2 hm rfl ih2
        have hi : 2 * m + 1 < cN C := by omega
        obtain ⟨g1, g2, g3⟩ := hC1.2 (2 * m + 1) hi
        obtain ⟨r1, r2⟩ := sm.2 (2 * m + 1) hi
        obtain ⟨r3, r4⟩ := sm.2 _ (nxt_lt hi)
        have hn := nxt_lt hi
        have hx : xorN (coT C (k % 32) (k / 32)) (2 * (m + 1)) = (xorN (coT C (k % 32) (k / 32)) (2 * m) ^^ coT C (k % 32) (k / 32) (2 * m + 1)) := by
          rw [show 2 * (m + 1) = 2 * m + 1 + 1 by omega, xorN, xorN]
          have : coT C (k % 32) (k / 32) (2 * m) = false := by unfold coT; simp
          rw [this]; simp
        have hst : nI (2 * m + 1) + 2 = nI (2 * (m + 1) + 1) := by rw [show (2 : Int32) = nI 2 from rfl, nI_add, show 2 * m + 1 + 2 = 2 * (m + 1) + 1 by omega]
        have hc16 : (16 : Int32) * nI c + nI (2 * m + 1) = nI (16 * c + (2 * m + 1)) := by rw [L16, pk_mul, nI_add]
        have ih3 := ih2 h2 rfl
        rw [hx, ← hst] at ih3
        refine qX12_laysLand_26 _ _ _ _ _ _ hS1 ⟨vp_in_nI hc (by omega), fun z => ?_, fun _ => ?_⟩
        · rw [nI_clamp (by omega), hC1.1, nI_leI (by omega) (by omega)] at z; omega
        · rw [hc16, nI_clamp (by omega), g1]
          refine ⟨vp_in_nI (by omega) (by omega), fun z => ?_, fun z => ⟨vp_in_nI (by omega) (by omega), ?_⟩⟩
          · rw [nI_ltI (by omega) (by omega)] at z
            have ht : coT C (k % 32) (k / 32) (2 * m + 1) = false := by unfold coT; simp; omega
            rw [ht, Bool.xor_false] at ih3
            exact ih3
          · rw [nI_ltI (by omega) (by omega)] at z
            have h1mod : (2 * m + 1) % 2 = 1 := by omega
            refine m_next0 hS1 hc hC1 sm hi ⟨_, rfl, hS1, vp_in_nI (by omega) (by omega), ?_⟩
            rw [g2, nI_clamp (by omega), (hC1.2 _ hn).2.1]
            refine ⟨fun y => ?_, fun y w hw => ?_⟩
            · rw [f_btw (by omega) (by omega) (by omega)] at y
              have ht : coT C (k % 32) (k / 32) (2 * m + 1) = false := by unfold coT; rw [y]; simp
              rw [ht, Bool.xor_false] at ih3
              exact ih3
            · rw [f_btw (by omega) (by omega) (by omega)] at y
              have ht : coT C (k % 32) (k / 32) (2 * m + 1) = true := by
                unfold coT
                have hy : btw (k / 32) (cY C (2 * m + 1)) (cY C (nxt (cN C) (2 * m + 1))) = true := by simpa using y
                rw [hy]; simp [h1mod]; omega
              rw [ht] at ih3
              have hw2 : w = b2i (xorN (coT C (k % 32) (k / 32)) (2 * m) ^^ true) := by
                rw [hw]
                cases xorN (coT C (k % 32) (k / 32)) (2 * m) <;> rfl
              rw [hw2]
              exact ih3
      · rintro h2 rfl
        refine qX12_laysLand_26 _ _ _ _ _ _ hS1 ⟨vp_in_nI hc (by omega), fun _ => ?_, fun z => ?_⟩
        · have hk2 : (1024 : Int32) * nI c + nI k = nI (1024 * c + k) := by rw [L1024, pk_mul, nI_add]
          rw [hk2, nI_clamp (by omega)]
          refine ⟨vp_in_nI (by omega) (by omega), b2i_b _, fun h3 e3 => ?_⟩
          rw [nI_1]
          subst e3
          refine ih _ ⟨f1.tr (mFr2.SI ⟨rfl, by omega, by omega⟩), fun j hj => ?_⟩
          rw [mI_SI]
          by_cases hjk : j = k
          · rw [if_pos ⟨rfl, by omega⟩, hjk, show 2 * (cN C / 2) = cN C by omega]
            rfl
          · rw [if_neg (by omega)]
            exact c1 j (by omega)
        · rw [nI_clamp (by omega), hC1.1, nI_leI (by omega) (by omega)] at z
          omega
  · rintro h1 ⟨f1, c1⟩
    refine qX12_laysLand_2 _ _ (f1.1.sk hS) ⟨fun _ => K h1 f1 c1, fun z => absurd ?_ z⟩
    decide
end
