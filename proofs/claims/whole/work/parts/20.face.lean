/-! FACING -/
def fwX (q x : Nat) : Nat := if q = 1 then x + 1 else if q = 3 then x - 1 else x
def fwY (q y : Nat) : Nat := if q = 0 then y + 1 else if q = 2 then y - 1 else y
def rm4 (q x y : Nat) : Nat := if q = 0 then 31 - y else if q = 1 then 31 - x else if q = 2 then y else x
def sX (q : Nat) : Int := if q = 1 then 1 else if q = 3 then -1 else 0
def sY (q : Nat) : Int := if q = 0 then 1 else if q = 2 then -1 else 0
/-- steps to the first land, within so many cells ahead; 0: none -/
def fcS (C : aCo) (q : Nat) : Nat → Nat → Nat → Nat
  | 0, _, _ => 0
  | r + 1, x, y => if coLand C (fwX q x) (fwY q y) then 1 else (if fcS C q r (fwX q x) (fwY q y) = 0 then 0 else fcS C q r (fwX q x) (fwY q y) + 1)
def soH (C : aCo) (q x y i : Nat) : Bool := if q % 2 = 0 then decide (i % 2 = 0) && (decide (cY C i = (if q = 0 then y + 1 else y)) && btw x (cX C i) (cX C (nxt (cN C) i))) else decide (i % 2 = 1) && (decide (cX C i = (if q = 1 then x + 1 else x)) && btw y (cY C i) (cY C (nxt (cN C) i)))
def soF (C : aCo) (q x y : Nat) : Nat → Nat → Option Nat
  | 0, _ => none
  | r + 1, i => if soH C q x y i then some (cS C i) else soF C q x y r (i + 1)
/-- the sort between a cell and the one ahead -/
def soB (C : aCo) (q x y : Nat) : Nat := (soF C q x y (cN C) 0).getD 0
def fcO (C : aCo) (q : Nat) : Nat → Nat → Nat → Nat
  | 0, _, _ => 0
  | r + 1, x, y => if coLand C (fwX q x) (fwY q y) then soB C q x y else fcO C q r (fwX q x) (fwY q y)
theorem soF_none {C : aCo} {q x y : Nat} : ∀ r i, soF C q x y r i = none → ∀ j, i ≤ j → j < i + r → soH C q x y j = false := by
  intro r
  induction r with
  | zero => intro i _ j h1 h2; omega
  | succ r ih =>
    intro i h j h1 h2
    unfold soF at h
    cases hb : soH C q x y i with
    | true => rw [hb, if_pos rfl] at h; cases h
    | false =>
      rw [hb, if_neg (by decide)] at h
      rcases (show j = i ∨ i + 1 ≤ j by omega) with e | e
      · rw [e]; exact hb
      · exact ih (i + 1) h j e (by omega)
theorem xorN_ne {p q : Nat → Bool} {n : Nat} (h : xorN p n ≠ xorN q n) : ∃ i, i < n ∧ p i ≠ q i := by
  apply Classical.byContradiction
  intro hn
  apply h
  apply xorN_cong
  intro i hi
  apply Classical.byContradiction
  intro hp
  exact hn ⟨i, hi, hp⟩
/-- between water and land lies a side -/
theorem soF_ex {C : aCo} (ok : okRing C) {q x y : Nat} (hq : q < 4) (hr : 0 < rm4 q x y) (h0 : coLand C x y = false) (h1 : coLand C (fwX q x) (fwY q y) = true) : ∃ s, soF C q x y (cN C) 0 = some s := by
  cases hs : soF C q x y (cN C) 0 with
  | some s => exact ⟨s, rfl⟩
  | none =>
    exfalso
    have hall := soF_none _ _ hs
    have hne : coLand C x y ≠ coLand C (fwX q x) (fwY q y) := by rw [h0, h1]; decide
    rcases (show q = 0 ∨ q = 1 ∨ q = 2 ∨ q = 3 by omega) with rfl | rfl | rfl | rfl
    · rw [coLand_col ok, coLand_col ok] at hne
      obtain ⟨i, hi, hp⟩ := xorN_ne hne
      have hb := hall i (by omega) (by omega)
      apply hp
      unfold coU fwX fwY
      unfold soH at hb
      by_cases he : cY C i = y + 1
      · simp [he] at hb ⊢
        by_cases hh : i % 2 = 0
        · rw [hb hh]; simp
        · simp [hh]
      · have : decide (cY C i ≤ y) = decide (cY C i ≤ y + 1) := by simp; omega
        simp [this]
    · unfold coLand at hne
      obtain ⟨i, hi, hp⟩ := xorN_ne hne
      have hb := hall i (by omega) (by omega)
      apply hp
      unfold coT fwX fwY
      unfold soH at hb
      by_cases he : cX C i = x + 1
      · simp [he] at hb ⊢
        by_cases hh : i % 2 = 1
        · rw [hb hh]; simp
        · simp [hh]
      · have : decide (cX C i ≤ x) = decide (cX C i ≤ x + 1) := by simp; omega
        simp [this]
    · rw [coLand_col ok, coLand_col ok] at hne
      obtain ⟨i, hi, hp⟩ := xorN_ne hne
      have hb := hall i (by omega) (by omega)
      apply hp
      have hy : 0 < y := hr
      unfold coU fwX fwY
      unfold soH at hb
      by_cases he : cY C i = y
      · simp [he] at hb ⊢
        have hny : ¬ y ≤ y - 1 := by omega
        simp [hny]
        intro hh
        exact hb hh
      · have : decide (cY C i ≤ y) = decide (cY C i ≤ y - 1) := by simp; omega
        simp [this]
    · unfold coLand at hne
      obtain ⟨i, hi, hp⟩ := xorN_ne hne
      have hb := hall i (by omega) (by omega)
      apply hp
      have hy : 0 < x := hr
      unfold coT fwX fwY
      unfold soH at hb
      by_cases he : cX C i = x
      · simp [he] at hb ⊢
        have hny : ¬ x ≤ x - 1 := by omega
        simp [hny]
        intro hh
        exact hb hh
      · have : decide (cX C i ≤ x) = decide (cX C i ≤ x - 1) := by simp; omega
        simp [this]
theorem rm4_fw {q x y : Nat} (hq : q < 4) (hx : x < 32) (hy : y < 32) (hr : 0 < rm4 q x y) : fwX q x < 32 ∧ fwY q y < 32 ∧ rm4 q (fwX q x) (fwY q y) = rm4 q x y - 1 ∧ (fwX q x : Int) = x + sX q ∧ (fwY q y : Int) = y + sY q := by
  unfold rm4 at hr ⊢
  unfold fwX fwY sX sY
  by_cases h0 : q = 0
  · subst h0; simp at hr ⊢; omega
  · by_cases h1 : q = 1
    · subst h1; simp at hr ⊢; omega
    · by_cases h2 : q = 2
      · subst h2; simp at hr ⊢; omega
      · by_cases h3 : q = 3
        · subst h3; simp at hr ⊢; omega
        · omega
theorem rm4_out {q x y : Nat} (hq : q < 4) (hx : x < 32) (hy : y < 32) (hr : rm4 q x y = 0) : ¬ ((0 ≤ (x : Int) + sX q ∧ (x : Int) + sX q < 32) ∧ (0 ≤ (y : Int) + sY q ∧ (y : Int) + sY q < 32)) := by
  unfold rm4 at hr
  unfold sX sY
  rcases (show q = 0 ∨ q = 1 ∨ q = 2 ∨ q = 3 by omega) with rfl | rfl | rfl | rfl <;> simp at hr ⊢ <;> omega
theorem f_st : ∀ q, q < 4 → f_X12_stepX (nI q) = iI (sX q) ∧ f_X12_stepY (nI q) = iI (sY q) := by decide +kernel
theorem sX_3 (q : Nat) : sX q = -1 ∨ sX q = 0 ∨ sX q = 1 := by unfold sX; split <;> first | omega | (split <;> omega)
theorem fcS_le (C : aCo) (q : Nat) : ∀ r x y, fcS C q r x y ≤ r := by
  intro r
  induction r with
  | zero => intro x y; exact Nat.le_refl 0
  | succ r ih =>
    intro x y
    have := ih (fwX q x) (fwY q y)
    unfold fcS
    split
    · omega
    · split <;> omega
/-- the model's land is right -/
def mLa (h : mH) (c : Nat) (C : aCo) : Prop := ∀ k, k < 1024 → mI h 52 (1024 * c + k) = b2i (coLand C (k % 32) (k / 32))
section
variable {G : mG} {d : Nat} {b : Nat × Nat} {h : mH} {Q : Option mV → mH → Prop}
theorem m_isLandAt {c x y : Nat} {C : aCo} (hS : mSk h) (hc : c < 8) (hx : x < 32) (hy : y < 32) (hL : mLa h c C) (K : Q (some (.inl (b2i (coLand C x y)))) h) : mC G kX12_isLandAt d b [.inr (some 47), .inl (nI c), .inl (nI x), .inl (nI y)] h Q := by
  refine qX12_isLandAt _ _ _ hS ?_
  have e : (1024 : Int32) * nI c + 32 * nI y + nI x = nI (1024 * c + (32 * y + x)) := by
    rw [L1024, L32, pk_mul, pk_mul, nI_add, nI_add, Nat.add_assoc]
  have hl := hL (32 * y + x) (by omega)
  rw [show (32 * y + x) % 32 = x by omega, show (32 * y + x) / 32 = y by omega] at hl
  rw [e, nI_clamp (by omega), hl]
  exact ⟨vp_in_nI (by omega) (by omega), b2i_b _, K⟩
set_option maxHeartbeats 1000000 in
theorem m_stepsLoop {c x y q : Nat} {C : aCo} (hS : mSk h) (hc : c < 8) (hq : q < 4) (hx : x < 32) (hy : y < 32) (hL : mLa h c C) : ∀ (r u v n : Nat), rm4 q u v = r → u < 32 → v < 32 → 0 < n → n + r ≤ 32 → (u : Int) = x + (n - 1) * sX q → (v : Int) = y + (n - 1) * sY q →
    Q (some (.inl (nI (if fcS C q r u v = 0 then 0 else fcS C q r u v + (n - 1))))) h → mW G kX12_stepsTo (d + 1) b 3 [some (.inr (some 47)), some (.inl (nI c)), some (.inl (nI x)), some (.inl (nI y)), some (.inl (nI q)), some (.inl (nI n))] [] h Q := by
  intro r
  induction r with
  | zero =>
    intro u v n hr hu hv hn hnr eu ev K
    refine qX12_stepsTo_3 _ _ _ _ _ hS ⟨fun _ => K, fun z => absurd ?_ z⟩
    obtain ⟨e1, e2⟩ := f_st q hq
    rw [e1, e2, ii_nat x, ii_nat y, ii_nat n, ii_mul, ii_mul, ii_add, ii_add, f_cell_eq, f_grid]
    have o := rm4_out hq hu hv hr
    rw [eu, ev] at o
    have m1 : (n : Int) * sX q = (n - 1) * sX q + sX q := by rcases sX_3 q with h | h | h <;> rw [h] <;> omega
    have m2 : (n : Int) * sY q = (n - 1) * sY q + sY q := by rw [Int.sub_mul]; omega
    rw [m1, m2, ← Int.add_assoc, ← Int.add_assoc]
    have b1 : -40 ≤ (x : Int) + (n - 1) * sX q + sX q ∧ (x : Int) + (n - 1) * sX q + sX q ≤ 80 := by rw [← eu]; rcases sX_3 q with h | h | h <;> rw [h] <;> omega
    have b2 : -40 ≤ (y : Int) + (n - 1) * sY q + sY q ∧ (y : Int) + (n - 1) * sY q + sY q ≤ 80 := by
      rw [← ev]; unfold sY; split
      · omega
      · split <;> omega
    rw [ii_toInt ⟨by omega, by omega⟩, ii_toInt ⟨by omega, by omega⟩]
    exact o
  | succ r ih =>
    intro u v n hr hu hv hn hnr eu ev K
    obtain ⟨f1, f2, f3, f4, f5⟩ := rm4_fw hq hu hv (by omega)
    obtain ⟨e1, e2⟩ := f_st q hq
    have m1 : (n : Int) * sX q = (n - 1) * sX q + sX q := by rcases sX_3 q with h | h | h <;> rw [h] <;> omega
    have m2 : (n : Int) * sY q = (n - 1) * sY q + sY q := by rw [Int.sub_mul]; omega
    have p1 : nI x + nI n * f_X12_stepX (nI q) = nI (fwX q u) := by
      rw [e1, ii_nat x, ii_nat n, ii_mul, ii_add, ii_nat, f4, eu, m1, Int.add_assoc]
    have p2 : nI y + nI n * f_X12_stepY (nI q) = nI (fwY q v) := by
      rw [e2, ii_nat y, ii_nat n, ii_mul, ii_add, ii_nat, f5, ev, m2, Int.add_assoc]
    refine qX12_stepsTo_3 _ _ _ _ _ hS ?_
    rw [p1, p2]
    refine ⟨fun z => ?_, fun _ => ?_⟩
    · rw [f_cell_eq, f_grid, nI_toI (by omega), nI_toI (by omega)] at z
      exact absurd ⟨⟨by omega, by omega⟩, by omega, by omega⟩ z
    · refine m_isLandAt hS hc f1 f2 hL ⟨_, rfl, hS, fun z => ?_, fun z => ?_⟩
      · rw [nI_1]
        have hl := b2i_0.mp z
        refine ih (fwX q u) (fwY q v) (n + 1) (by omega) f1 f2 (by omega) (by omega) ?_ ?_ ?_
        · rw [f4, eu]; have : ((n + 1 : Nat) : Int) - 1 = n := by omega
          rw [this, m1, Int.add_assoc]
        · rw [f5, ev]; have : ((n + 1 : Nat) : Int) - 1 = n := by omega
          rw [this, m2, Int.add_assoc]
        · have ef : fcS C q (r + 1) u v = if fcS C q r (fwX q u) (fwY q v) = 0 then 0 else fcS C q r (fwX q u) (fwY q v) + 1 := by
            rw [fcS, hl]; rfl
          rw [ef] at K
          by_cases h0 : fcS C q r (fwX q u) (fwY q v) = 0
          · simp only [if_pos h0] at K ⊢
            exact K
          · simp only [if_neg h0] at K ⊢
            rw [if_neg (by omega)] at K
            rw [show fcS C q r (fwX q u) (fwY q v) + (n + 1 - 1) = fcS C q r (fwX q u) (fwY q v) + 1 + (n - 1) by omega]
            exact K
      · have hl : coLand C (fwX q u) (fwY q v) = true := by
          cases hb : coLand C (fwX q u) (fwY q v) with
          | true => rfl
          | false => rw [hb] at z; exact absurd rfl z
        unfold fcS at K
        rw [hl, if_pos rfl, if_neg (by decide), show 1 + (n - 1) = n by omega] at K
        exact K
theorem m_stepsTo {c x y q : Nat} {C : aCo} (hS : mSk h) (hc : c < 8) (hq : q < 4) (hx : x < 32) (hy : y < 32) (hL : mLa h c C) (K : Q (some (.inl (nI (fcS C q (rm4 q x y) x y)))) h) : mC G kX12_stepsTo (d + 1) b [.inr (some 47), .inl (nI c), .inl (nI x), .inl (nI y), .inl (nI q)] h Q := by
  refine qX12_stepsTo _ _ _ _ hS ?_
  have hr : rm4 q x y ≤ 31 := by unfold rm4; split <;> first | omega | (split <;> first | omega | (split <;> omega))
  refine m_stepsLoop hS hc hq hx hy hL (rm4 q x y) x y 1 rfl hx hy (by omega) (by omega) (by simp) (by simp) ?_
  by_cases h0 : fcS C q (rm4 q x y) x y = 0
  · rw [h0] at K; rw [if_pos h0]; exact K
  · rw [if_neg h0]; exact K
end
