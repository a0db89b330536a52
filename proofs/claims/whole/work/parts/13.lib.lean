/-! numbers: an int as the image of a whole number -/
def iI (z : Int) : Int32 := Int32.ofInt z
def inI (z : Int) : Prop := -2147483648 ≤ z ∧ z < 2147483648
theorem ii_toInt {z : Int} (h : inI z) : (iI z).toInt = z := by
  unfold iI
  rw [Int32.toInt_ofInt]
  have hs : (Int32.size : Int) = 4294967296 := by decide
  exact Int.bmod_eq_of_le (by have := h.1; omega) (by have := h.2; omega)
theorem ii_of (x : Int32) : x = iI x.toInt := by unfold iI; rw [Int32.ofInt_toInt]
theorem ii_rng (x : Int32) : inI x.toInt := by
  have h1 := Int32.minValue_le_toInt x
  have h2 := Int32.toInt_le x
  have e1 : Int32.minValue.toInt = -2147483648 := by decide
  have e2 : Int32.maxValue.toInt = 2147483647 := by decide
  exact ⟨by omega, by omega⟩
theorem ii_add (a b : Int) : iI a + iI b = iI (a + b) := by unfold iI; rw [Int32.ofInt_add]
theorem ii_sub (a b : Int) : iI a - iI b = iI (a - b) := by unfold iI; rw [Int32.ofInt_sub]
theorem ii_mul (a b : Int) : iI a * iI b = iI (a * b) := by unfold iI; rw [Int32.ofInt_mul]
theorem ii_neg (a : Int) : -iI a = iI (-a) := by unfold iI; rw [Int32.ofInt_neg]
theorem ii_nat (n : Nat) : nI n = iI n := by unfold iI nI; rfl
theorem ii_lit (n : Nat) : (OfNat.ofNat n : Int32) = iI n := ii_nat n
theorem ii_lt {a b : Int} (ha : inI a) (hb : inI b) : iI a < iI b ↔ a < b := by rw [Int32.lt_iff_toInt_lt, ii_toInt ha, ii_toInt hb]
theorem ii_le {a b : Int} (ha : inI a) (hb : inI b) : iI a ≤ iI b ↔ a ≤ b := by rw [Int32.le_iff_toInt_le, ii_toInt ha, ii_toInt hb]
theorem ii_eq {a b : Int} (ha : inI a) (hb : inI b) : iI a = iI b ↔ a = b := by
  constructor
  · intro h
    have := congrArg Int32.toInt h
    rw [ii_toInt ha, ii_toInt hb] at this
    exact this
  · intro h; rw [h]
theorem ii_cl {z : Int} (h0 : 0 ≤ z) (h : z < 2147483648) : (iI z).toNatClampNeg = z.toNat := by
  unfold Int32.toNatClampNeg
  rw [ii_toInt ⟨by omega, h⟩]
theorem ii_in {z : Int} {n : Nat} (h0 : 0 ≤ z) (h : z < n) (hn : n < 2147483648) : vp_in (iI z) n := by
  rw [vp_in_iff, ii_toInt ⟨by omega, by omega⟩]
  exact ⟨h0, h⟩
theorem ii_div {a b : Nat} (ha : a < 2147483648) (h0 : 0 < b) (hb : b < 2147483648) : nI a / nI b = nI (a / b) := pk_div (by simpa using ha) h0 (by simpa using hb)
theorem ii_rem {a b : Nat} (ha : a < 2147483648) (h0 : 0 < b) (hb : b < 2147483648) : m_rem (nI a) (nI b) = nI (a % b) := pk_rem (by simpa using ha) h0 (by simpa using hb)
theorem nI_toI {n : Nat} (h : n < 2147483648) : (nI n).toInt = n := nI_toInt (by simpa using h)
/-- an int that isn't below 0 -/
theorem nI_ex {x : Int32} {n : Nat} (h0 : 0 ≤ x.toInt) (h : x.toInt < n) (hn : n ≤ 2147483648) : ∃ j : Nat, j < n ∧ x = nI j := by
  refine ⟨x.toInt.toNat, by omega, ?_⟩
  rw [ii_nat, Int.toNat_of_nonneg h0]
  exact ii_of x
/-! bits of an int -/
def bt (x : Int32) (i : Nat) : Bool := x.toBitVec.getLsbD i
theorem bt_ext {x y : Int32} (h : ∀ i, i < 32 → bt x i = bt y i) : x = y := by
  apply Int32.toBitVec_inj.mp
  apply BitVec.eq_of_getLsbD_eq
  intro i hi
  exact h i hi
theorem bt_or (x y : Int32) (i : Nat) : bt (x ||| y) i = (bt x i || bt y i) := by simp [bt]
theorem bt_and (x y : Int32) (i : Nat) : bt (x &&& y) i = (bt x i && bt y i) := by simp [bt]
theorem bt_xor (x y : Int32) (i : Nat) : bt (x ^^^ y) i = (bt x i ^^ bt y i) := by simp [bt]
theorem bt_big {x : Int32} {i : Nat} (h : 32 ≤ i) : bt x i = false := BitVec.getLsbD_of_ge _ _ h
theorem bt_0 (i : Nat) : bt 0 i = false := by simp [bt]
theorem bt_m1 : ∀ i, i < 32 → bt (-1) i = true := by decide
theorem bt_not (x : Int32) {i : Nat} (hi : i < 32) : bt (m_not x) i = !bt x i := by
  unfold m_not
  rw [bt_xor, bt_m1 i hi]
  simp
theorem bt_amt : ∀ n, n < 32 → ((nI n &&& 31).toBitVec.smod 32).toNat = n := by decide
theorem bt_amu : ∀ n, n < 32 → (((nI n).toUInt32 &&& Int32.toUInt32 31).toBitVec % 32).toNat = n := by decide
theorem bt_shl (n : Nat) (hn : n < 32) (x : Int32) {i : Nat} (hi : i < 32) : bt (m_shl x (nI n)) i = (decide (n ≤ i) && bt x (i - n)) := by
  unfold m_shl bt
  rw [Int32.toBitVec_shiftLeft, BitVec.shiftLeft_eq', bt_amt n hn, BitVec.getLsbD_shiftLeft]
  by_cases h : n ≤ i
  · simp [hi, h, Nat.not_lt.mpr h]
  · simp [hi, h, Nat.not_le.mp h]
theorem bt_ushr (n : Nat) (hn : n < 32) (x : Int32) (i : Nat) : bt (m_ushr x (nI n)) i = bt x (n + i) := by
  unfold m_ushr bt
  have h : ((x.toUInt32 >>> ((nI n).toUInt32 &&& Int32.toUInt32 31)).toInt32).toBitVec = x.toBitVec >>> n := by
    show (x.toUInt32 >>> ((nI n).toUInt32 &&& Int32.toUInt32 31)).toBitVec = _
    rw [UInt32.toBitVec_shiftRight, BitVec.ushiftRight_eq', bt_amu n hn]
    rfl
  rw [h, BitVec.getLsbD_ushiftRight]
theorem bt_one {i : Nat} (hi : i < 32) : bt 1 i = decide (i = 0) := by
  revert i
  decide
/-- one bit, asked as the programs ask it -/
theorem bt_ask (x : Int32) {n : Nat} (hn : n < 32) : ((m_ushr x (nI n)) &&& 1) = 1 ↔ bt x n = true := by
  constructor
  · intro h
    have := congrArg (fun z => bt z 0) h
    simp only [bt_and, bt_ushr n hn, Nat.add_zero] at this
    rw [show bt 1 0 = true from by decide] at this
    simpa using this
  · intro h
    apply bt_ext
    intro i hi
    rw [bt_and, bt_ushr n hn, bt_one hi]
    by_cases h0 : i = 0
    · subst h0; simp [h]
    · simp [h0]
theorem bt_ask0 (x : Int32) {n : Nat} (hn : n < 32) : ((m_ushr x (nI n)) &&& 1) = 0 ↔ bt x n = false := by
  have h := bt_ask x hn
  constructor
  · intro h0
    cases hb : bt x n with
    | false => rfl
    | true => rw [h.mpr hb] at h0; exact absurd h0 (by decide)
  · intro h0
    apply bt_ext
    intro i hi
    rw [bt_and, bt_ushr n hn, bt_one hi, bt_0]
    by_cases hi0 : i = 0
    · subst hi0; simp [h0]
    · simp [hi0]
/-! frames: what a call leaves -/
def mKp (h h' : mH) : Prop := mN h' = mN h ∧ mT h' = mT h ∧ mL h' = mL h ∧ mR h' = mR h
theorem mKp.rf {h : mH} : mKp h h := ⟨rfl, rfl, rfl, rfl⟩
theorem mKp.tr {a b c : mH} (h1 : mKp a b) (h2 : mKp b c) : mKp a c := ⟨h2.1.trans h1.1, h2.2.1.trans h1.2.1, h2.2.2.1.trans h1.2.2.1, h2.2.2.2.trans h1.2.2.2⟩
theorem mKp.sk {h h' : mH} (k : mKp h h') (hS : mSk h) : mSk h' := by
  obtain ⟨k1, k2, k3, k4⟩ := k
  unfold mSk at hS ⊢
  rw [k1, k2, k3, k4]
  exact hS
theorem mKp.SI {h : mH} {a k : Nat} {x : Int32} : mKp h (mSI h a k x) := ⟨rfl, rfl, rfl, rfl⟩
/-- the ints outside A stay -/
def mFr2 (A : Nat → Nat → Prop) (h h' : mH) : Prop := mKp h h' ∧ ∀ a k, ¬ A a k → mI h' a k = mI h a k
theorem mFr2.rf {A : Nat → Nat → Prop} {h : mH} : mFr2 A h h := ⟨mKp.rf, fun _ _ _ => rfl⟩
theorem mFr2.tr {A : Nat → Nat → Prop} {a b c : mH} (h1 : mFr2 A a b) (h2 : mFr2 A b c) : mFr2 A a c := ⟨h1.1.tr h2.1, fun x k hk => (h2.2 x k hk).trans (h1.2 x k hk)⟩
theorem mFr2.wk {A B : Nat → Nat → Prop} {a b : mH} (h1 : mFr2 A a b) (hAB : ∀ x k, A x k → B x k) : mFr2 B a b := ⟨h1.1, fun x k hk => h1.2 x k (fun z => hk (hAB x k z))⟩
theorem mFr2.SI {A : Nat → Nat → Prop} {h : mH} {a k : Nat} {x : Int32} (hA : A a k) : mFr2 A h (mSI h a k x) := ⟨mKp.SI, fun x' k' hk => by
  rw [mI_SI, if_neg]
  rintro ⟨rfl, rfl⟩
  exact hk hA⟩
/-- a loop upward, with an invariant -/
theorem mloop {W P : Nat → mH → Prop} (n : Nat) (step : ∀ i h, i < n → P i h → (∀ h', P (i + 1) h' → W (i + 1) h') → W i h) (fin : ∀ h, P n h → W n h) : ∀ i h, i ≤ n → P i h → W i h := by
  intro i h hi hp
  obtain ⟨r, hr⟩ : ∃ r, r = n - i := ⟨_, rfl⟩
  induction r generalizing i h with
  | zero =>
    have e : i = n := by omega
    subst e
    exact fin h hp
  | succ r ih => exact step i h (by omega) hp (fun h' hp' => ih (i + 1) h' (by omega) hp' (by omega))
