/-! CHECK, both sides -/
def nmT (t : Nat → Nat) (i : Nat) : Int32 := ((m_shl (nI (t (4 * i))) 24 ||| m_shl (nI (t (4 * i + 1))) 16) ||| m_shl (nI (t (4 * i + 2))) 8) ||| nI (t (4 * i + 3))
def ckP (t : Nat → Nat) (C : aCo) (i : Nat) : Prop := ∀ x, x < 32 → bt (nmT t i) x = coLand C x i
def isCk (t : Nat → Nat) (C : aCo) (w : Nat) (r : Int32) : Prop := (∃ i, i < w ∧ (∀ j, j < i → ckP t C j) ∧ ¬ ckP t C i ∧ r = nI i) ∨ ((∀ j, j < w → ckP t C j) ∧ r = if w = 32 then -1 else nI w)
theorem isCk_one {t : Nat → Nat} {C : aCo} {w : Nat} {r s : Int32} (h1 : isCk t C w r) (h2 : isCk t C w s) : r = s := by
  rcases h1 with ⟨i, hi, a1, b1, c1⟩ | ⟨a1, c1⟩ <;> rcases h2 with ⟨j, hj, a2, b2, c2⟩ | ⟨a2, c2⟩
  · have : i = j := by
      rcases Nat.lt_trichotomy i j with h | h | h
      · exact absurd (a2 i h) b1
      · exact h
      · exact absurd (a1 j h) b2
    rw [c1, c2, this]
  · exact absurd (a2 i hi) b1
  · exact absurd (a1 j hj) b2
  · rw [c1, c2]
def okCk (n nt : Nat) (v1 v2 : Int32) : Prop := (0 ≤ v1.toInt ∧ v1.toInt < n) ∧ ¬ f_X11_within v2 0 32 = 0 ∧ 4 * v2.toInt ≤ nt
theorem sb8_255 : ∀ t, t < 256 → (sb8 t &&& 255) = nI t := by decide +kernel
theorem bt_shl8 (x : Int32) {i : Nat} (hi : i < 32) : bt (m_shl x 8) i = (decide (8 ≤ i) && bt x (i - 8)) := bt_shl 8 (by omega) x hi
theorem bt_shl16 (x : Int32) {i : Nat} (hi : i < 32) : bt (m_shl x 16) i = (decide (16 ≤ i) && bt x (i - 16)) := bt_shl 16 (by omega) x hi
theorem bt_shl24 (x : Int32) {i : Nat} (hi : i < 32) : bt (m_shl x 24) i = (decide (24 ≤ i) && bt x (i - 24)) := bt_shl 24 (by omega) x hi
theorem nm_eq (a b c e : Int32) : (m_shl (m_shl (m_shl (m_shl 0 8 ||| a) 8 ||| b) 8 ||| c) 8 ||| e) = ((m_shl a 24 ||| m_shl b 16) ||| m_shl c 8) ||| e := by
  refine bt_ext (fun i hi => ?_)
  rw [bt_or, bt_or, bt_or, bt_or, bt_shl8 _ hi, bt_shl24 _ hi, bt_shl16 _ hi, bt_shl8 _ hi]
  congr 1
  by_cases h8 : 8 ≤ i
  · rw [bt_or, bt_shl8 _ (show i - 8 < 32 by omega)]
    by_cases h16 : 16 ≤ i
    · rw [bt_or, bt_shl8 _ (show i - 8 - 8 < 32 by omega), show i - 8 - 8 = i - 16 by omega]
      by_cases h24 : 24 ≤ i
      · rw [bt_or, bt_shl8 _ (show i - 16 - 8 < 32 by omega), bt_0, show i - 16 - 8 = i - 24 by omega]
        simp [h8, h16, h24, show 8 ≤ i - 8 by omega, show 8 ≤ i - 16 by omega]
      · simp [h8, h16, h24, show 8 ≤ i - 8 by omega, show ¬ 8 ≤ i - 16 by omega]
    · simp [h8, h16, show ¬ 24 ≤ i by omega, show ¬ 8 ≤ i - 8 by omega]
  · simp [h8, show ¬ 24 ≤ i by omega, show ¬ 16 ≤ i by omega]
section
variable {G : mG} {d : Nat} {b : Nat × Nat} {h : mH} {Q : Option mV → mH → Prop}
theorem L4 : (4 : Int32) = nI 4 := rfl
theorem c9_number {n i : Nat} {t : Nat → Nat} (hS : mSk h) (hT : tpX h n t) (hi : 4 * i + 3 < n) (K : Q (some (.inl (nmT t i))) h) : mC G kX9_number (d + 1) b [.inr (some 9), .inl (nI i)] h Q := by
  have h220 := hT.2.1
  refine qX9_number _ hS ?_
  rw [L4, pk_mul, nI_1, L2, nI_add, show (3 : Int32) = nI 3 from rfl, nI_add]
  exact c9_at hS hT (by omega) ⟨_, rfl, hS, c9_at hS hT (by omega) ⟨_, rfl, hS, c9_at hS hT (by omega) ⟨_, rfl, hS, c9_at hS hT (by omega) ⟨_, rfl, hS, K⟩⟩⟩⟩
theorem m_tapeNumber {n i : Nat} {t : Nat → Nat} (hS : mSk h) (h220 : n ≤ 220) (hT : ∀ j, j < n → t j < 256 ∧ mI h 57 j = sb8 (t j)) (hi : 4 * i + 3 < n) (K : Q (some (.inl (nmT t i))) h) : mC G kX12_tapeNumber d b [.inr (some 47), .inl (nI i)] h Q := by
  refine qX12_tapeNumber _ hS ?_
  have st : ∀ (j : Nat) (v : Int32), j < 4 → mW G kX12_tapeNumber d b 6 [some (.inr (some 47)), some (.inl (nI i)), some (.inl (m_shl v 8 ||| nI (t (4 * i + j)))), some (.inl (nI (4 * i + j + 1)))] [] h Q → mW G kX12_tapeNumber d b 6 [some (.inr (some 47)), some (.inl (nI i)), some (.inl v), some (.inl (nI (4 * i + j)))] [] h Q := by
    intro j v hj W
    refine qX12_tapeNumber_6 _ _ _ hS ⟨fun z => ?_, fun _ => ⟨vp_in_nI (by omega) (by omega), ?_⟩⟩
    · rw [L4, pk_mul, nI_add, nI_leI (by omega) (by omega)] at z; omega
    · obtain ⟨t1, t2⟩ := hT (4 * i + j) (by omega)
      rw [nI_clamp (by omega), t2, sb8_255 _ t1, nI_1]; exact W
  rw [L4, pk_mul]
  refine st 0 _ (by omega) (st 1 _ (by omega) (st 2 _ (by omega) (st 3 _ (by omega) ?_)))
  refine qX12_tapeNumber_6 _ _ _ hS ⟨fun _ => ?_, fun z => absurd ?_ z⟩
  · rw [nm_eq]; exact K
  · rw [L4, pk_mul, nI_add]; exact Int32.le_refl _
theorem bt_setb (x : Int32) {n i : Nat} (hn : n < 32) (hi : i < 32) : bt (x ||| m_shl 1 (nI n)) i = (bt x i || decide (i = n)) := by
  rw [bt_or, bt_shl n hn _ hi]
  congr 1
  by_cases h1 : n ≤ i
  · rw [bt_one (by omega)]
    by_cases h2 : i = n
    · simp [h2]
    · simp [h1, h2, show ¬ i - n = 0 by omega]
  · simp [h1, show ¬ i = n by omega]
theorem m_rowOf {c y : Nat} {C : aCo} (hS : mSk h) (hc : c < 8) (hy : y < 32) (hL : mLa h c C) (K : ∀ v, (∀ x, x < 32 → bt v x = coLand C x y) → Q (some (.inl v)) h) : mC G kX12_rowOf (d + 1) b [.inr (some 47), .inl (nI c), .inl (nI y)] h Q := by
  refine qX12_rowOf _ _ hS ?_
  have key : ∀ (r i : Nat) (v : Int32), i + r = 32 → (∀ x, x < 32 → bt v x = (decide (x < i) && coLand C x y)) → mW G kX12_rowOf (d + 1) b 5 [some (.inr (some 47)), some (.inl (nI c)), some (.inl (nI y)), some (.inl v), some (.inl (nI i))] [] h Q := by
    intro r
    induction r with
    | zero =>
      intro i v hi hv
      refine qX12_rowOf_5 _ _ _ _ hS ⟨fun _ => K v (fun x hx => ?_), fun z => absurd ?_ z⟩
      · rw [hv x hx, decide_eq_true (by omega)]; rfl
      · rw [show i = 32 by omega]; exact Int32.le_refl _
    | succ r ih =>
      intro i v hi hv
      refine qX12_rowOf_5 _ _ _ _ hS ⟨fun z => ?_, fun _ => ?_⟩
      · rw [L32, nI_leI (by omega) (by omega)] at z; omega
      · refine m_isLandAt hS hc (by omega) hy hL ⟨_, rfl, hS, fun w3 e3 => ?_⟩
        rw [nI_1]
        refine ih (i + 1) w3 (by omega) (fun x hx => ?_)
        rw [e3]
        cases hl : coLand C i y with
        | true =>
          rw [if_neg (by decide), bt_setb _ (by omega) hx, hv x hx]
          by_cases hxi : x = i
          · rw [hxi, hl]; simp
          · have : decide (x < i + 1) = decide (x < i) := by rw [decide_eq_decide]; omega
            rw [this]; simp [hxi]
        | false =>
          rw [if_pos (by decide), hv x hx]
          by_cases hxi : x = i
          · rw [hxi, hl]; simp
          · have : decide (x < i + 1) = decide (x < i) := by rw [decide_eq_decide]; omega
            rw [this]
  exact key 32 0 0 (by omega) (fun x hx => by rw [bt_0]; rfl)
theorem c11_check (v1 v2 : Int32) {n nt : Nat} {t : Nat → Nat} {I : Nat → Nat} {Cs : Nat → aCo} (hS : mSk h) (hC : cCh h n I Cs) (hT : tpX h nt t) (K1 : ¬ okCk n nt v1 v2 → Q (some (.inl (-2))) h)
    (K2 : ∀ c w r, c < n → w ≤ 32 → v1 = nI c → v2 = nI w → 4 * w ≤ nt → isCk t (Cs c) w r → Q (some (.inl r)) (mSI h 9 1 0)) : mC G kX11_check (d + 2) b [.inr (some 8), .inl v1, .inl v2] h Q := by
  have h220 := hT.2.1
  refine qX11_check _ _ hS ?_
  refine c0_get v1 hS hC (fun t => ⟨_, rfl, hS, ⟨fun _ => K1 (fun u => t u.1), fun y z => nomatch z⟩⟩) (fun c hc ec => ⟨_, rfl, hS, ⟨fun z => (nomatch z), fun a ea => ?_⟩⟩)
  cases ea
  obtain ⟨-, ta, hX, ok, hL, hsw⟩ := hC.2.2 c hc
  refine ⟨ta, fun z => K1 (fun u => u.2.1 z), fun z => ?_⟩
  obtain ⟨w, hw, ew⟩ := wi_ex (m := 32) (by omega) z
  have hle : 4 * v2 ≤ mI h 9 1 ↔ 4 * w ≤ nt := by rw [ew, hT.1, L4, pk_mul, nI_leI (by omega) (by omega)]
  refine ⟨fun z2 => ?_, fun z2 => K1 (fun u => z2 (hle.mpr ?_))⟩
  · have hnt := hle.mp z2
    rw [ew]
    have key : ∀ (r i : Nat), i + r = w → (∀ j, j < i → ckP t (Cs c) j) → mW G kX11_check (d + 2) b 42 [some (.inr (some 8)), none, some (.inl (nI w)), some (.inr (some (I c))), some (.inl (nI i))] [] h Q := by
      intro r
      induction r with
      | zero =>
        intro i hi ha
        refine qX11_check_42 _ _ _ ta hS ⟨fun _ h1 e1 w2 e2 => ?_, fun z => absurd ?_ z⟩
        · subst e1
          refine K2 c w w2 hc hw ec ew hnt (Or.inr ⟨fun j hj => ha j (by omega), ?_⟩)
          rw [e2, show i = w by omega]
          by_cases h3 : w = 32
          · rw [if_neg (fun q => q (by rw [h3]; rfl)), if_pos h3]
          · rw [if_pos (fun q => h3 (by rw [L32, nI_eq (by omega) (by omega)] at q; exact q)), if_neg h3]
        · rw [show i = w by omega]; exact Int32.le_refl _
      | succ r ih =>
        intro i hi ha
        refine qX11_check_42 _ _ _ ta hS ⟨fun z => ?_, fun _ => ?_⟩
        · rw [nI_leI (by omega) (by omega)] at z; omega
        · refine c9_number hS hT (by omega) ⟨_, rfl, hS, ta, vp_in_nI (by omega) (by omega), fun z3 h8 e8 w9 e9 => ?_, fun z3 => ?_⟩
          · subst e8
            rw [nI_clamp (by omega)] at z3
            refine K2 c w w9 hc hw ec ew hnt (Or.inl ⟨i, by omega, ha, fun q => z3 (bt_ext (fun x hx => ?_)), ?_⟩)
            · rw [q x hx, (hL x i hx (by omega)).1]
            · rw [e9, if_pos (fun q => by rw [L32, nI_eq (by omega) (by omega)] at q; omega)]
          · rw [nI_clamp (by omega)] at z3
            rw [nI_1]
            refine ih (i + 1) (by omega) (fun j hj => ?_)
            rcases (show j < i ∨ j = i by omega) with q | q
            · exact ha j q
            · subst q
              intro x hx
              rw [z3, (hL x j hx (by omega)).1]
    exact key w 0 (by omega) (fun j hj => by omega)
  · have := u.2.2
    rw [ew, nI_toI (by omega)] at this; omega
theorem m_check (v1 v2 : Int32) {n nt : Nat} {t : Nat → Nat} {Cs : Nat → aCo} (hS : mSk h) (hC : mCh h n Cs) (hT : tpM h nt t) (K1 : ¬ okCk n nt v1 v2 → Q (some (.inl (-2))) h)
    (K2 : ∀ c w r, c < n → w ≤ 32 → v1 = nI c → v2 = nI w → 4 * w ≤ nt → isCk t (Cs c) w r → Q (some (.inl r)) (mSI h 47 12 0)) : mC G kX12_check (d + 2) b [.inr (some 47), .inl v1, .inl v2] h Q := by
  have h220 := hT.2.1
  have hn := hC.2.1
  refine qX12_check _ _ hS ?_
  rw [f_in_eq]
  refine m_isCoast v1 hS hC (fun t => ⟨_, rfl, hS, fun _ => K1 (fun u => t u.1), fun z => absurd rfl z⟩) (fun c hc ec => ⟨_, rfl, hS, fun z => absurd z (by decide), fun _ => ⟨fun z => K1 (fun u => u.2.1 z), fun z => ?_⟩⟩)
  obtain ⟨w, hw, ew⟩ := wi_ex (m := 32) (by omega) z
  have hle : v2 ≤ mI h 47 12 / 4 ↔ 4 * w ≤ nt := by rw [ew, hT.1, L4, ii_div (by omega) (by omega) (by omega), nI_leI (by omega) (by omega)]; omega
  obtain ⟨k1, k2, k3⟩ := hC.2.2 c hc
  refine ⟨fun z2 h3 e3 => ?_, fun z2 => K1 (fun u => z2 (hle.mpr ?_))⟩
  · have hnt := hle.mp z2
    rw [ew, ec]
    have hS3 : mSk h3 := by rw [e3]; exact mKp.SI.sk hS
    have hL3 : mLa h3 c (Cs c) := fun k hk => by rw [e3, mI_SI_a (by decide)]; exact k3 k hk
    have hT3 : ∀ j, j < nt → t j < 256 ∧ mI h3 57 j = sb8 (t j) := fun j hj => by rw [e3, mI_SI_a (by decide)]; exact hT.2.2 j hj
    have K3 : ∀ r, isCk t (Cs c) w r → Q (some (.inl r)) h3 := fun r hr => by rw [e3]; exact K2 c w r hc hw ec ew hnt hr
    have key : ∀ (r i : Nat), i + r = w → (∀ j, j < i → ckP t (Cs c) j) → mW G kX12_check (d + 2) b 38 [some (.inr (some 47)), some (.inl (nI c)), some (.inl (nI w)), some (.inl (nI i))] [] h3 Q := by
      intro r
      induction r with
      | zero =>
        intro i hi ha
        have hiw : i = w := by omega
        refine qX12_check_38 _ _ _ hS3 ⟨fun z => K3 _ (Or.inr ⟨fun j hj => ha j (by omega), ?_⟩), fun z => ⟨fun _ => K3 _ (Or.inr ⟨fun j hj => ha j (by omega), ?_⟩), fun z2 => absurd (by rw [hiw]) z2⟩⟩
        · rw [L32, nI_leI (by omega) (by omega)] at z
          rw [if_pos (by omega)]
        · rw [L32, nI_leI (by omega) (by omega)] at z
          rw [if_neg (by omega), hiw]
      | succ r ih =>
        intro i hi ha
        refine qX12_check_38 _ _ _ hS3 ⟨fun z => ?_, fun _ => ⟨fun z => ?_, fun _ => ?_⟩⟩
        · rw [L32, nI_leI (by omega) (by omega)] at z; omega
        · rw [nI_eq (by omega) (by omega)] at z; omega
        · refine m_tapeNumber hS3 h220 hT3 (by omega) ⟨_, rfl, hS3, m_rowOf hS3 (by omega) (by omega) hL3 (fun v hv => ⟨_, rfl, hS3, fun z3 => ?_, fun z3 => ?_⟩)⟩
          · rw [nI_1]
            refine ih (i + 1) (by omega) (fun j hj => ?_)
            rcases (show j < i ∨ j = i by omega) with q | q
            · exact ha j q
            · subst q
              intro x hx
              rw [z3, hv x hx]
          · refine K3 _ (Or.inl ⟨i, by omega, ha, fun q => z3 (bt_ext (fun x hx => ?_)), rfl⟩)
            rw [q x hx, hv x hx]
    exact key w 0 (by omega) (fun j hj => by omega)
  · have := u.2.2
    rw [ew, nI_toI (by omega)] at this; omega
end
