/-! a ring on the tape: the first place that can't be -/
def sb8 (t : Nat) : Int32 := (nI t).toInt8.toInt32
theorem sb8_cor : ∀ t, t < 256 → (f_X12_isCorner (sb8 t) = 0 ↔ 32 < t) := by decide +kernel
theorem sb8_in2 : ∀ t, t < 256 → (f_X12_in (sb8 t) 0 2 = 0 ↔ 2 < t) := by decide +kernel
theorem sb8_id : ∀ t, t < 128 → sb8 t = nI t := by decide +kernel
/-- the tape holds n bytes t, in the class and in the model -/
def tpX (h : mH) (n : Nat) (t : Nat → Nat) : Prop := mI h 9 1 = nI n ∧ n ≤ 220 ∧ ∀ j, j < n → t j < 256 ∧ mI h 10 j = nI (t j)
def tpM (h : mH) (n : Nat) (t : Nat → Nat) : Prop := mI h 47 12 = nI n ∧ n ≤ 220 ∧ ∀ j, j < n → t j < 256 ∧ mI h 57 j = sb8 (t j)
def jnT (t : Nat → Nat) (a b : Nat) : Bool := if a % 2 = 0 then decide (t (2 * a + 1) = t (2 * b + 1)) && !decide (t (2 * a) = t (2 * b)) else decide (t (2 * a) = t (2 * b)) && !decide (t (2 * a + 1) = t (2 * b + 1))
def bdT (t : Nat → Nat) (n i : Nat) : Option Nat :=
  if 32 < t (2 * i) then some (2 * i) else if 32 < t (2 * i + 1) then some (2 * i + 1) else if (0 < i ∧ jnT t (i - 1) i = false) ∨ (i + 1 = n ∧ jnT t i 0 = false) then some (2 * i) else none
def isBd (t : Nat → Nat) (n p : Nat) : Prop := (∃ i, i < n ∧ bdT t n i = some p ∧ ∀ j, j < i → bdT t n j = none) ∨ ((∀ j, j < n → bdT t n j = none) ∧ ∃ i, i < n ∧ 2 < t (2 * n + i) ∧ p = 2 * n + i ∧ ∀ j, j < i → t (2 * n + j) ≤ 2)
def noBd (t : Nat → Nat) (n : Nat) : Prop := (∀ j, j < n → bdT t n j = none) ∧ ∀ j, j < n → t (2 * n + j) ≤ 2
theorem isBd_one {t : Nat → Nat} {n p q : Nat} (h1 : isBd t n p) (h2 : isBd t n q) : p = q := by
  rcases h1 with ⟨i, hi, e1, l1⟩ | ⟨a1, i, hi, e1, p1, l1⟩ <;> rcases h2 with ⟨j, hj, e2, l2⟩ | ⟨a2, j, hj, e2, p2, l2⟩
  · have : i = j := by
      rcases Nat.lt_trichotomy i j with h | h | h
      · rw [l2 i h] at e1; cases e1
      · exact h
      · rw [l1 j h] at e2; cases e2
    subst this
    rw [e1] at e2; exact Option.some.inj e2
  · rw [a2 i hi] at e1; cases e1
  · rw [a1 j hj] at e2; cases e2
  · have : i = j := by
      rcases Nat.lt_trichotomy i j with h | h | h
      · have := l2 i h; omega
      · exact h
      · have := l1 j h; omega
    omega
theorem isBd_no {t : Nat → Nat} {n p : Nat} (h1 : isBd t n p) (h2 : noBd t n) : False := by
  rcases h1 with ⟨i, hi, e1, -⟩ | ⟨-, i, hi, e1, -, -⟩
  · rw [h2.1 i hi] at e1; cases e1
  · have := h2.2 i hi; omega
section
variable {G : mG} {d : Nat} {b : Nat × Nat} {h : mH} {Q : Option mV → mH → Prop}
theorem c9_at {n p : Nat} {t : Nat → Nat} (hS : mSk h) (hT : tpX h n t) (hp : p < n) (K : Q (some (.inl (nI (t p)))) h) : mC G kX9_at d b [.inr (some 9), .inl (nI p)] h Q := by
  have h220 := hT.2.1
  refine qX9_at _ hS ⟨fun z => absurd z (nI_pos (by omega)), fun _ => ⟨fun z => ?_, fun _ => ⟨vp_in_nI (by omega) (by omega), ?_⟩⟩⟩
  · rw [hT.1, nI_leI (by omega) (by omega)] at z; omega
  · rw [nI_clamp (by omega), (hT.2.2 p hp).2]; exact K
theorem L2 : (2 : Int32) = nI 2 := rfl
theorem c9_joins {n u v : Nat} {t : Nat → Nat} (hS : mSk h) (hT : tpX h n t) (hu : 2 * u + 1 < n) (hv : 2 * v + 1 < n) (K : Q (some (.inl (b2i (jnT t u v)))) h) : mC G kX9_joins (d + 1) b [.inr (some 9), .inl (nI u), .inl (nI v)] h Q := by
  have h220 := hT.2.1
  refine qX9_joins _ _ hS ?_
  rw [L2, pk_mul, pk_mul, nI_1, nI_1, and1_n (by omega)]
  refine c9_at hS hT (by omega) ⟨_, rfl, hS, c9_at hS hT (by omega) ⟨_, rfl, hS, fun w5 e5 => c9_at hS hT (by omega) ⟨_, rfl, hS, c9_at hS hT (by omega) ⟨_, rfl, hS, fun w10 e10 w11 e11 => ?_⟩⟩⟩⟩
  have b1 := (hT.2.2 (2 * u) (by omega)).1
  have b2 := (hT.2.2 (2 * v) (by omega)).1
  have b3 := (hT.2.2 (2 * u + 1) (by omega)).1
  have b4 := (hT.2.2 (2 * v + 1) (by omega)).1
  have q1 : nI (t (2 * u)) = nI (t (2 * v)) ↔ t (2 * u) = t (2 * v) := nI_eq (by omega) (by omega)
  have q2 : nI (t (2 * u + 1)) = nI (t (2 * v + 1)) ↔ t (2 * u + 1) = t (2 * v + 1) := nI_eq (by omega) (by omega)
  have w5e : w5 = b2i (decide (t (2 * u) = t (2 * v))) := by
    rw [e5]
    by_cases hx : t (2 * u) = t (2 * v)
    · rw [if_neg (fun z => z (q1.mpr hx))]; simp [hx, b2i]
    · rw [if_pos (fun z => hx (q1.mp z))]; simp [hx, b2i]
  have w10e : w10 = b2i (decide (t (2 * u + 1) = t (2 * v + 1))) := by
    rw [e10]
    by_cases hx : t (2 * u + 1) = t (2 * v + 1)
    · rw [if_neg (fun z => z (q2.mpr hx))]; simp [hx, b2i]
    · rw [if_pos (fun z => hx (q2.mp z))]; simp [hx, b2i]
  have w11e : w11 = b2i (jnT t u v) := by
    rw [e11, w5e, w10e]
    unfold jnT
    rcases (show u % 2 = 0 ∨ u % 2 = 1 by omega) with hp | hp
    · rw [hp, if_neg (fun z => z rfl), if_pos rfl]
      cases decide (t (2 * u) = t (2 * v)) <;> cases decide (t (2 * u + 1) = t (2 * v + 1)) <;> rfl
    · rw [hp, if_pos (show ¬ nI 1 = 0 by decide), if_neg (show ¬ (1 : Nat) = 0 by decide)]
      cases decide (t (2 * u) = t (2 * v)) <;> cases decide (t (2 * u + 1) = t (2 * v + 1)) <;> rfl
  rw [w11e]
  exact K
set_option maxHeartbeats 1000000 in
theorem c9_bad {m n : Nat} {t : Nat → Nat} (hS : mSk h) (hT : tpX h m t) (hn : 4 ≤ n ∧ n ≤ 16) (h3 : 3 * n ≤ m) (K1 : ∀ p, isBd t n p → Q (some (.inl (nI p))) h) (K2 : noBd t n → Q (some (.inl (-1))) h) : mC G kX9_badCoastPlace (d + 2) b [.inr (some 9), .inl (nI n)] h Q := by
  have h220 := hT.2.1
  refine qX9_badCoastPlace _ hS ?_
  refine mloop (W := fun i h1 => mW G kX9_badCoastPlace (d + 2) b 2 [some (.inr (some 9)), some (.inl (nI n)), some (.inl (nI i)), none] [] h1 Q) (P := fun i h1 => h1 = h ∧ ∀ j, j < i → bdT t n j = none) n ?_ ?_ 0 h (by omega) ⟨rfl, fun j hj => by omega⟩
  · rintro i h1 hi ⟨rfl, a1⟩ ih
    have next : bdT t n i = none → mW G kX9_badCoastPlace (d + 2) b 2 [some (.inr (some 9)), some (.inl (nI n)), some (.inl (nI (i + 1))), none] [] h1 Q := fun e => ih h1 ⟨rfl, fun j hj => by
      rcases (show j < i ∨ j = i by omega) with q | q
      · exact a1 j q
      · rw [q]; exact e⟩
    have bad : ∀ p, bdT t n i = some p → Q (some (.inl (nI p))) h1 := fun p e => K1 p (Or.inl ⟨i, hi, e, a1⟩)
    have t1 := (hT.2.2 (2 * i) (by omega)).1
    have t2 := (hT.2.2 (2 * i + 1) (by omega)).1
    refine qX9_badCoastPlace_2 _ _ hS ⟨fun z => ?_, fun _ => ?_⟩
    · rw [nI_leI (by omega) (by omega)] at z; omega
    · rw [L2, pk_mul, nI_1, nI_1]
      refine c9_at hS hT (by omega) ⟨_, rfl, hS, fun z1 => c9_at hS hT (by omega) ⟨_, rfl, hS, fun z2 => ?_, fun z2 => ?_⟩, fun z1 => ?_⟩
      · rw [L32, nI_leI (by omega) (by omega)] at z1 z2
        have hlast : nI i = nI n - 1 ↔ i + 1 = n := by
          rw [show nI n - 1 = nI (n - 1) from by rw [show n = (n - 1) + 1 by omega]; exact nI_pred _, nI_eq (by omega) (by omega)]; omega
        have hb : (0 < i ∧ jnT t (i - 1) i = false) ∨ (i + 1 = n ∧ jnT t i 0 = false) → bdT t n i = some (2 * i) := fun q => by
          unfold bdT; rw [if_neg (by omega), if_neg (by omega), if_pos q]
        have hg : ¬ ((0 < i ∧ jnT t (i - 1) i = false) ∨ (i + 1 = n ∧ jnT t i 0 = false)) → bdT t n i = none := fun q => by
          unfold bdT; rw [if_neg (by omega), if_neg (by omega), if_neg q]
        refine ⟨fun y => ⟨fun z => absurd z (by decide), fun _ => ⟨fun z => next (hg ?_), fun z => ?_⟩⟩, fun y => ?_⟩
        · have hi0 : i = 0 := by rw [show (0 : Int32) = nI 0 from rfl, nI_eq (by omega) (by omega)] at y; exact y
          rintro (q | q)
          · omega
          · exact z (hlast.mpr q.1)
        · have hi0 : i = 0 := by rw [show (0 : Int32) = nI 0 from rfl, nI_eq (by omega) (by omega)] at y; exact y
          have := hlast.mp z
          omega
        · have hi0 : 0 < i := by
            rcases (show i = 0 ∨ 0 < i by omega) with q | q
            · rw [q] at y; exact absurd rfl y
            · exact q
          rw [show nI i - 1 = nI (i - 1) from by rw [show i = (i - 1) + 1 by omega]; exact nI_pred _]
          refine c9_joins hS hT (by omega) (by omega) ⟨_, rfl, hS, fun w hw => ⟨fun z => bad _ (hb (Or.inl ⟨hi0, ?_⟩)), fun z => ⟨fun y2 => next (hg ?_), fun y2 => ?_⟩⟩⟩
          · rw [hw] at z
            cases hj : jnT t (i - 1) i with
            | false => rfl
            | true => rw [hj] at z; exact absurd z (by decide)
          · have hj : jnT t (i - 1) i = true := by
              cases hj : jnT t (i - 1) i with
              | true => rfl
              | false => rw [hw, hj] at z; exact absurd rfl z
            rintro (q | q)
            · rw [hj] at q; cases q.2
            · exact y2 (hlast.mpr q.1)
          · have hj : jnT t (i - 1) i = true := by
              cases hj : jnT t (i - 1) i with
              | true => rfl
              | false => rw [hw, hj] at z; exact absurd rfl z
            have hl := hlast.mp y2
            refine c9_joins (v := 0) hS hT (by omega) (by omega) ⟨_, rfl, hS, fun y3 => next (hg ?_), fun y3 => bad _ (hb (Or.inr ⟨hl, b2i_0.mp y3⟩))⟩
            rintro (q | q)
            · rw [hj] at q; cases q.2
            · exact y3 (b2i_0.mpr q.2)
      · rw [L32, nI_leI (by omega) (by omega)] at z1 z2
        exact bad _ (by unfold bdT; rw [if_neg (by omega), if_pos (by omega)])
      · rw [L32, nI_leI (by omega) (by omega)] at z1
        exact bad _ (by unfold bdT; rw [if_pos (by omega)])
  · rintro h1 ⟨rfl, a1⟩
    refine qX9_badCoastPlace_2 _ _ hS ⟨fun _ => ?_, fun z => absurd (Int32.le_refl _) z⟩
    rw [L2, pk_mul]
    have key := mloop (W := fun i h2 => mW G kX9_badCoastPlace (d + 2) b 98 [some (.inr (some 9)), some (.inl (nI n)), some (.inl (nI (2 * n + i))), none] [] h2 Q) (P := fun i h2 => h2 = h1 ∧ ∀ j, j < i → t (2 * n + j) ≤ 2) n ?_ ?_ 0 h1 (by omega) ⟨rfl, fun j hj => by omega⟩
    · exact key
    · rintro i h2 hi ⟨rfl, a2⟩ ih
      have t1 := (hT.2.2 (2 * n + i) (by omega)).1
      refine qX9_badCoastPlace_98 _ _ hS ⟨fun z => ?_, fun _ => ?_⟩
      · rw [show (3 : Int32) = nI 3 from rfl, pk_mul, nI_leI (by omega) (by omega)] at z; omega
      · refine c9_at hS hT (by omega) ⟨_, rfl, hS, fun z => ?_, fun z => K1 _ (Or.inr ⟨a1, i, hi, ?_, rfl, a2⟩)⟩
        · rw [L2, nI_leI (by omega) (by omega)] at z
          rw [nI_1, show 2 * n + i + 1 = 2 * n + (i + 1) by omega]
          exact ih h2 ⟨rfl, fun j hj => by
            rcases (show j < i ∨ j = i by omega) with q | q
            · exact a2 j q
            · rw [q]; exact z⟩
        · rw [L2, nI_leI (by omega) (by omega)] at z; omega
    · rintro h2 ⟨rfl, a2⟩
      refine qX9_badCoastPlace_98 _ _ hS ⟨fun _ => K2 ⟨a1, a2⟩, fun z => absurd ?_ z⟩
      rw [show (3 : Int32) = nI 3 from rfl, pk_mul, nI_leI (by omega) (by omega)]
      omega
end
