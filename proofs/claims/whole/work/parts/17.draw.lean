/-! the class's land -/
theorem fmax_n {a b : Nat} (ha : a < 2147483648) (hb : b < 2147483648) : f_max (nI a) (nI b) = nI (max a b) := by
  unfold f_max
  by_cases h : a < b
  · rw [if_pos ((nI_ltI (by simpa using ha) (by simpa using hb)).mpr h), Nat.max_eq_right (by omega)]
  · rw [if_neg (fun z => h ((nI_ltI (by simpa using ha) (by simpa using hb)).mp z)), Nat.max_eq_left (by omega)]
theorem fmin_n {a b : Nat} (ha : a < 2147483648) (hb : b < 2147483648) : f_min (nI a) (nI b) = nI (min a b) := by
  unfold f_min
  by_cases h : b < a
  · rw [if_pos ((nI_ltI (by simpa using hb) (by simpa using ha)).mpr h), Nat.min_eq_right (by omega)]
  · rw [if_neg (fun z => h ((nI_ltI (by simpa using hb) (by simpa using ha)).mp z)), Nat.min_eq_left (by omega)]
theorem btw_iff {v a b : Nat} : btw v a b = true ↔ (min a b ≤ v ∧ v < max a b) := by
  unfold btw
  by_cases h1 : a ≤ v <;> by_cases h2 : b ≤ v <;> simp [h1, h2] <;> omega
/-- the bits from a place on -/
def bey (p : Nat) : Int32 := if 32 ≤ nI p then 0 else m_shl (-1) (nI p)
theorem bt_bey {p x : Nat} (hp : p ≤ 32) (hx : x < 32) : bt (bey p) x = decide (p ≤ x) := by
  unfold bey
  by_cases h : p = 32
  · subst h
    rw [if_pos (by decide), bt_0]
    simp; omega
  · rw [if_neg (fun z => by rw [L32, nI_leI (by omega) (by omega)] at z; omega), bt_shl p (by omega) _ hx]
    by_cases h2 : p ≤ x
    · rw [bt_m1 _ (by omega)]; simp
    · simp [h2]
def mCoX (h : mH) (a : Nat) (C : aCo) : Prop := mI h a 1 = nI (cN C) ∧ ∀ i, i < cN C → mI h (a + 6) i = nI (cX C i) ∧ mI h (a + 7) i = nI (cY C i) ∧ mI h (a + 8) i = nI (cS C i)
section
variable {G : mG} {d : Nat} {b : Nat × Nat} {h : mH} {Q : Option mV → mH → Prop}
set_option maxHeartbeats 1000000 in
theorem c1_turnBeyond {r u v p : Nat} (hS : mSk h) (tr : mT h r = 100) (lr : mL h r = 32) (hu : u ≤ 32) (hv : v ≤ 32) (hp : p ≤ 32)
    (K : ∀ h', mFr2 (fun a _ => a = r) h h' → (∀ y, y < 32 → mI h' r y = if btw y u v then mI h r y ^^^ bey p else mI h r y) → Q none h') : mC G kX1_turnBeyond (d + 1) b [.inr (some r), .inl (nI u), .inl (nI v), .inl (nI p)] h Q := by
  refine qX1_turnBeyond r _ _ _ tr hS (fun w hw => ?_)
  rw [fmax_n (by omega) (by omega), fmin_n (by omega) (by omega), show (32 : Int32) = nI 32 from rfl, show (0 : Int32) = nI 0 from rfl, fmin_n (by omega) (by omega), fmax_n (by omega) (by omega)]
  have hw2 : w = bey p := hw
  rw [hw2]
  have hmm : min 32 (max u v) = max u v := by omega
  rw [hmm, Nat.zero_max]
  by_cases hlt : min u v ≤ max u v
  · refine mloop (W := fun i h1 => mW G kX1_turnBeyond (d + 1) b 38 [some (.inr (some r)), none, none, none, some (.inl (bey p)), some (.inl (nI (max u v))), some (.inl (nI i))] [] h1 Q)
      (P := fun i h1 => min u v ≤ i ∧ mFr2 (fun a _ => a = r) h h1 ∧ ∀ y, y < 32 → mI h1 r y = if min u v ≤ y ∧ y < i then mI h r y ^^^ bey p else mI h r y) (max u v) ?_ ?_ (min u v) h hlt ⟨Nat.le_refl _, mFr2.rf, fun y _ => by rw [if_neg (by omega)]⟩
    · rintro i h1 hi ⟨g0, f1, c1⟩ ih
      have hS1 := f1.1.sk hS
      have tr1 : mT h1 r = 100 := by rw [f1.1.2.1]; exact tr
      have lr1 : mL h1 r = 32 := by rw [f1.1.2.2.1]; exact lr
      refine qX1_turnBeyond_38 r _ _ _ tr1 hS1 ⟨fun z => ?_, fun _ => ?_⟩
      · rw [nI_leI (by omega) (by omega)] at z; omega
      · rw [lr1]
        refine ⟨vp_in_nI (by omega) (by omega), vp_in_nI (by omega) (by omega), fun h3 e3 => ?_⟩
        rw [nI_1]
        rw [nI_clamp (by omega)] at e3
        subst e3
        refine ih _ ⟨by omega, f1.tr (mFr2.SI rfl), fun y hy => ?_⟩
        rw [mI_SI, c1 i (by omega), c1 y hy]
        by_cases hyi : y = i
        · rw [if_pos ⟨rfl, hyi⟩, if_neg (by omega), if_pos (by omega), hyi]
        · rw [if_neg (fun z => hyi z.2)]
          by_cases h5 : min u v ≤ y ∧ y < i
          · rw [if_pos h5, if_pos (by omega)]
          · rw [if_neg h5, if_neg (by omega)]
    · rintro h1 ⟨g0, f1, c1⟩
      have tr1 : mT h1 r = 100 := by rw [f1.1.2.1]; exact tr
      refine qX1_turnBeyond_38 r _ _ _ tr1 (f1.1.sk hS) ⟨fun _ => K h1 f1 (fun y hy => ?_), fun z => absurd (Int32.le_refl _) z⟩
      rw [c1 y hy]
      by_cases h5 : min u v ≤ y ∧ y < max u v
      · rw [if_pos h5, if_pos (btw_iff.mpr h5)]
      · rw [if_neg h5, if_neg (fun z => h5 (btw_iff.mp z))]
  · omega
def aDraw (a : Nat) : Nat → Nat → Prop := fun r _ => r = a + 1 ∨ r = a + 2
theorem and1_n {i : Nat} (h : i < 2147483648) : (nI i &&& 1) = nI (i % 2) := by
  have := pk_andN (n := i) (m := 1) (by omega) 1 (by decide)
  simpa using this
set_option maxHeartbeats 2000000 in
theorem c1_drawLand {a : Nat} {C : aCo} (hS : mSk h) (ta : mT h a = 2) (hC : mCoX h a C) (ok : okRing C) (z1 : ∀ y, y < 32 → mI h (a + 1) y = 0) (z2 : ∀ y, y < 32 → mI h (a + 2) y = 0)
    (K : ∀ h', mFr2 (aDraw a) h h' → (∀ x y, x < 32 → y < 32 → bt (mI h' (a + 1) y) x = coLand C x y ∧ bt (mI h' (a + 2) x) y = coLand C x y) → Q none h') : mC G kX1_drawLand (d + 2) b [.inr (some a)] h Q := by
  refine qX1_drawLand a ta hS ?_
  have hn16 := ok.1.2.1
  refine mloop (W := fun i h1 => mW G kX1_drawLand (d + 2) b 2 [some (.inr (some a)), some (.inl (nI i)), none] [] h1 Q)
    (P := fun i h1 => mFr2 (aDraw a) h h1 ∧ ∀ x y, x < 32 → y < 32 → bt (mI h1 (a + 1) y) x = xorN (coT C x y) i ∧ bt (mI h1 (a + 2) x) y = xorN (coU C x y) i) (cN C) ?_ ?_ 0 h (by omega) ⟨mFr2.rf, fun x y hx hy => ?_⟩
  · rintro i h1 hi ⟨f1, c1⟩ ih
    have hS1 := f1.1.sk hS
    have ta1 : mT h1 a = 2 := by rw [f1.1.2.1]; exact ta
    have hC1 : mCoX h1 a C := ⟨by rw [f1.2 a 1 (fun z => by unfold aDraw at z; omega)]; exact hC.1, fun j hj => by
      rw [f1.2 (a + 6) j (fun z => by unfold aDraw at z; omega), f1.2 (a + 7) j (fun z => by unfold aDraw at z; omega), f1.2 (a + 8) j (fun z => by unfold aDraw at z; omega)]; exact hC.2 j hj⟩
    have hnx := nxt_lt hi
    obtain ⟨⟨r1, r2, -⟩, hs⟩ := ok.2 i hi
    obtain ⟨⟨r3, r4, -⟩, -⟩ := ok.2 _ hnx
    obtain ⟨g1, g2, -⟩ := hC1.2 i hi
    obtain ⟨g3, g4, -⟩ := hC1.2 _ hnx
    refine qX1_drawLand_2 a _ ta1 hS1 ⟨fun z => ?_, fun _ w hw => ?_⟩
    · rw [hC1.1, nI_leI (by omega) (by omega)] at z; omega
    · have hw2 : w = nI (nxt (cN C) i) := by
        rw [hw, hC1.1, nI_1]
        unfold nxt
        by_cases hx : i + 1 = cN C
        · rw [if_pos ((nI_leI (by omega) (by omega)).mpr (by omega)), if_pos hx]; rfl
        · rw [if_neg (fun z => by rw [nI_leI (by omega) (by omega)] at z; omega), if_neg hx]
      rw [hw2, nI_clamp (by omega), nI_clamp (by omega), nI_1, and1_n (by omega), g1, g2, g3, g4]
      have vi : vp_in (nI i) 16 := vp_in_nI (by omega) (by omega)
      have vn : vp_in (nI (nxt (cN C) i)) 16 := vp_in_nI (by omega) (by omega)
      refine ⟨fun z => ⟨vi, vn, vi, ?_⟩, fun z => ⟨vi, vn, vi, ?_⟩⟩
      · have hp : i % 2 = 0 := by
          rcases (show i % 2 = 0 ∨ i % 2 = 1 by omega) with q | q
          · exact q
          · rw [q] at z; exact absurd rfl z
        refine c1_turnBeyond hS1 (skBT_1_2 hS1 ta1) (skBL_1_2 hS1 ta1) r1 r3 r2 (fun h2 f2 c2 => ⟨rfl, f2.1.sk hS1, by rw [f2.1.2.1]; exact ta1, ?_⟩)
        refine ih h2 ⟨f1.tr (f2.wk (fun q k hq => Or.inr hq)), fun x y hx hy => ?_⟩
        have hT0 : coT C x y i = false := by unfold coT; simp [hp]
        rw [xorN, xorN, hT0, f2.2 (a + 1) y (by omega), c2 x hx]
        refine ⟨by rw [Bool.xor_false]; exact (c1 x y hx hy).1, ?_⟩
        have hU : coU C x y i = (decide (cY C i ≤ y) && btw x (cX C i) (cX C (nxt (cN C) i))) := by unfold coU; simp [hp]
        rw [hU, ← (c1 x y hx hy).2]
        cases hb : btw x (cX C i) (cX C (nxt (cN C) i)) with
        | true => rw [if_pos rfl, bt_xor, bt_bey r2 hy]; simp
        | false => rw [if_neg (by decide)]; simp
      · have hp : i % 2 = 1 := by
          rcases (show i % 2 = 0 ∨ i % 2 = 1 by omega) with q | q
          · rw [q] at z; exact absurd z (by decide)
          · exact q
        refine c1_turnBeyond hS1 (skBT_1_1 hS1 ta1) (skBL_1_1 hS1 ta1) r2 r4 r1 (fun h2 f2 c2 => ⟨rfl, f2.1.sk hS1, by rw [f2.1.2.1]; exact ta1, ?_⟩)
        refine ih h2 ⟨f1.tr (f2.wk (fun q k hq => Or.inl hq)), fun x y hx hy => ?_⟩
        have hU0 : coU C x y i = false := by unfold coU; simp [hp]
        rw [xorN, xorN, hU0, f2.2 (a + 2) x (by omega), c2 y hy]
        refine ⟨?_, by rw [Bool.xor_false]; exact (c1 x y hx hy).2⟩
        have hT : coT C x y i = (decide (cX C i ≤ x) && btw y (cY C i) (cY C (nxt (cN C) i))) := by unfold coT; simp [hp]
        rw [hT, ← (c1 x y hx hy).1]
        cases hb : btw y (cY C i) (cY C (nxt (cN C) i)) with
        | true => rw [if_pos rfl, bt_xor, bt_bey r1 hx]; simp
        | false => rw [if_neg (by decide)]; simp
  · rintro h1 ⟨f1, c1⟩
    have ta1 : mT h1 a = 2 := by rw [f1.1.2.1]; exact ta
    have hn1 : mI h1 a 1 = nI (cN C) := by rw [f1.2 a 1 (fun z => by unfold aDraw at z; omega)]; exact hC.1
    refine qX1_drawLand_2 a _ ta1 (f1.1.sk hS) ⟨fun _ => K h1 f1 (fun x y hx hy => ?_), fun z => ?_⟩
    · have := c1 x y hx hy
      exact ⟨this.1, by rw [coLand_col ok]; exact this.2⟩
    · rw [hn1] at z
      exact absurd (Int32.le_refl _) z
  · rw [z1 y hy, z2 x hx, bt_0, bt_0]
    exact ⟨rfl, rfl⟩
end
