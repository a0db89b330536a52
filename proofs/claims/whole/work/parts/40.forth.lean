/-! forth and behind: the fewest wrong notes (model) -/
def sm (a c : Nat) : Nat := if FARn ≤ a then FARn else if c < FARn then a + c else FARn
theorem sm_n {a c : Nat} (ha : a ≤ FARn) (hc : c ≤ FARn) : f_X12_sum (nI a) (nI c) = nI (sm a c) := by
  unfold FARn at ha hc
  unfold f_X12_sum sm FARn
  rw [L1e9]
  by_cases h1 : 1000000000 ≤ a
  · rw [if_pos (nI_le h1 (by omega)), if_pos h1]
  · rw [if_neg (nI_ge (by omega) (by omega)), if_neg h1]
    by_cases h2 : c < 1000000000
    · rw [if_pos (nI_lt h2 (by omega)), if_pos h2, nI_add]
    · rw [if_neg (nI_nlt (by omega) (by omega)), if_neg h2]
theorem least_n {a c : Nat} (ha : a ≤ FARn) (hc : c ≤ FARn) : f_X12_least (nI a) (nI c) = nI (min a c) := by
  unfold FARn at ha hc
  unfold f_X12_least
  by_cases h1 : c ≤ a
  · rw [if_pos (nI_le h1 (by omega)), Nat.min_eq_right h1]
  · rw [if_neg (nI_ge (by omega) (by omega)), Nat.min_eq_left (by omega)]
/-- r is the least of V over the cells of P -/
def isMn (P : Nat → Prop) (V : Nat → Nat) (r : Nat) : Prop := r ≤ FARn ∧ (∀ k, k < 1024 → P k → r ≤ V k) ∧ (r = FARn ∨ ∃ k, k < 1024 ∧ P k ∧ r = V k)
theorem isMn_one {P : Nat → Prop} {V : Nat → Nat} {r s : Nat} (h1 : isMn P V r) (h2 : isMn P V s) : r = s := by
  obtain ⟨a1, a2, a3⟩ := h1
  obtain ⟨b1, b2, b3⟩ := h2
  have c1 : r ≤ s := by
    rcases b3 with e | ⟨k, hk, hp, e⟩
    · omega
    · rw [e]; exact a2 k hk hp
  have c2 : s ≤ r := by
    rcases a3 with e | ⟨k, hk, hp, e⟩
    · omega
    · rw [e]; exact b2 k hk hp
  omega
theorem isMn_eq {P P' : Nat → Prop} {V : Nat → Nat} {r : Nat} (h : isMn P V r) (e : ∀ k, k < 1024 → (P k ↔ P' k)) : isMn P' V r :=
  ⟨h.1, fun k hk hp => h.2.1 k hk ((e k hk).mpr hp), h.2.2.imp id (fun ⟨k, hk, hp, er⟩ => ⟨k, hk, (e k hk).mp hp, er⟩)⟩
theorem isMn_no {P : Nat → Prop} {V : Nat → Nat} (e : ∀ k, k < 1024 → ¬ P k) : isMn P V FARn := ⟨Nat.le_refl _, fun k hk hp => absurd hp (e k hk), Or.inl rfl⟩
theorem isMn_add {P P' : Nat → Prop} {V : Nat → Nat} {r q : Nat} (h : isMn P V r) (hq : q < 1024) (hV : V q ≤ FARn) (e : ∀ k, k < 1024 → (P' k ↔ (P k ∨ k = q))) : isMn P' V (min r (V q)) := by
  refine ⟨by have := h.1; omega, fun k hk hp => ?_, ?_⟩
  · rcases (e k hk).mp hp with h1 | h1
    · have := h.2.1 k hk h1; omega
    · rw [h1]; omega
  · by_cases hle : r ≤ V q
    · rw [Nat.min_eq_left hle]
      exact h.2.2.imp id (fun ⟨k, hk, hp, er⟩ => ⟨k, hk, (e k hk).mpr (Or.inl hp), er⟩)
    · rw [Nat.min_eq_right (by omega)]
      exact Or.inr ⟨q, hq, (e q hq).mpr (Or.inr rfl), rfl⟩
/-- the least of all, by way of a count -/
def mnN (V : Nat → Nat) : Nat → Nat
  | 0 => FARn
  | n + 1 => min (mnN V n) (V n)
def arP (x y : Int) (d k : Nat) : Prop := (x - d ≤ (k % 32 : Nat) ∧ ((k % 32 : Nat) : Int) ≤ x + d) ∧ (y - d ≤ (k / 32 : Nat) ∧ ((k / 32 : Nat) : Int) ≤ y + d)
noncomputable def lar (V : Nat → Nat) (x y : Int) (d : Nat) : Nat := mnN (fun k => @ite Nat (arP x y d k) (Classical.propDecidable _) (V k) FARn) 1024
theorem mnN_is {P : Nat → Prop} {V : Nat → Nat} (hV : ∀ k, k < 1024 → V k ≤ FARn) : ∀ n, n ≤ 1024 → isMn (fun k => k < n ∧ P k) V (mnN (fun k => @ite Nat (P k) (Classical.propDecidable _) (V k) FARn) n)
  | 0, _ => isMn_no (fun k _ z => by omega)
  | n + 1, hn => by
    have ih := mnN_is (P := P) hV n (by omega)
    unfold mnN
    by_cases hp : P n
    · have e : (@ite Nat (P n) (Classical.propDecidable _) (V n) FARn) = V n := if_pos hp
      rw [e]
      refine isMn_add ih (by omega) (hV n (by omega)) (fun k hk => ⟨fun z => ?_, fun z => ?_⟩)
      · rcases (show k < n ∨ k = n by omega) with q | q
        · exact Or.inl ⟨q, z.2⟩
        · exact Or.inr q
      · rcases z with z | z
        · exact ⟨by omega, z.2⟩
        · rw [z]; exact ⟨by omega, hp⟩
    · have e : (@ite Nat (P n) (Classical.propDecidable _) (V n) FARn) = FARn := if_neg hp
      rw [e, Nat.min_eq_left ih.1]
      refine isMn_eq ih (fun k hk => ⟨fun z => ⟨by omega, z.2⟩, fun z => ?_⟩)
      rcases (show k < n ∨ k = n by omega) with q | q
      · exact ⟨q, z.2⟩
      · rw [q] at z; exact absurd z.2 hp
theorem lar_is {V : Nat → Nat} (hV : ∀ k, k < 1024 → V k ≤ FARn) (x y : Int) (d : Nat) : isMn (arP x y d) V (lar V x y d) :=
  isMn_eq (mnN_is (P := arP x y d) hV 1024 (by omega)) (fun k hk => ⟨fun z => z.2, fun z => ⟨hk, z⟩⟩)
theorem mnN_all {V : Nat → Nat} (hV : ∀ k, k < 1024 → V k ≤ FARn) : ∀ n, n ≤ 1024 → isMn (fun k => k < n) V (mnN V n)
  | 0, _ => isMn_no (fun k _ z => by omega)
  | n + 1, hn => by
    unfold mnN
    exact isMn_add (mnN_all hV n (by omega)) (by omega) (hV n (by omega)) (fun k hk => ⟨fun z => by omega, fun z => by omega⟩)
abbrev aBx : Type := Nat × Nat × Nat × Nat
def inBx (B : aBx) (k : Nat) : Bool := decide ((B.1 ≤ k % 32 ∧ k % 32 ≤ B.2.2.1) ∧ (B.2.1 ≤ k / 32 ∧ k / 32 ≤ B.2.2.2))
def okBx (B : aBx) : Prop := B.1 < 32 ∧ B.2.1 < 32 ∧ B.2.2.1 < 32 ∧ B.2.2.2 < 32
def bxM (h : mH) (B : aBx) : Prop := (mI h 47 35 = nI B.1 ∧ mI h 47 36 = nI B.2.1 ∧ mI h 47 37 = nI B.2.2.1 ∧ mI h 47 38 = nI B.2.2.2) ∧ okBx B
noncomputable def foV (O : Nat → Nat → Nat) (J : Nat → aLi) (B : aBx) : Nat → Nat → Nat
  | 0, k => sm (if inBx B k then 0 else FARn) (O 0 k)
  | i + 1, k => sm (lar (foV O J B i) ((k % 32 : Nat) - jX (J (i + 1))) ((k / 32 : Nat) - jY (J (i + 1))) (jD (J (i + 1)))) (O (i + 1) k)
/-- behind, r lines ahead of the last of n -/
noncomputable def beV (O : Nat → Nat → Nat) (J : Nat → aLi) (n : Nat) : Nat → Nat → Nat
  | 0, k => sm 0 (O (n - 1) k)
  | r + 1, k => sm (lar (beV O J n r) ((k % 32 : Nat) + jX (J (n - 1 - r))) ((k / 32 : Nat) + jY (J (n - 1 - r))) (jD (J (n - 1 - r)))) (O (n - 2 - r) k)
def okO2 (n : Nat) (O : Nat → Nat → Nat) : Prop := ∀ i k, i < n → (O i k = FARn ∨ O i k ≤ 6)
theorem lar_b {V : Nat → Nat} {M : Nat} (hV : ∀ k, V k ≤ FARn ∧ (V k < FARn → V k ≤ M)) (x y : Int) (d : Nat) : lar V x y d ≤ FARn ∧ (lar V x y d < FARn → lar V x y d ≤ M) := by
  obtain ⟨a1, -, a3⟩ := lar_is (fun k _ => (hV k).1) x y d
  refine ⟨a1, fun z => ?_⟩
  rcases a3 with e | ⟨k, -, -, e⟩
  · omega
  · rw [e]; exact (hV k).2 (by omega)
theorem sm_b {a c M : Nat} (ha : a ≤ FARn ∧ (a < FARn → a ≤ M)) (hc : c = FARn ∨ c ≤ 6) (hM : M ≤ 1000) : sm a c ≤ FARn ∧ (sm a c < FARn → sm a c ≤ M + 6) := by
  unfold sm FARn at *
  split
  · omega
  · split <;> omega
theorem foV_b {n : Nat} {O : Nat → Nat → Nat} (hO : okO2 n O) (hn : n ≤ 12) (J : Nat → aLi) (B : aBx) : ∀ i k, i < n → foV O J B i k ≤ FARn ∧ (foV O J B i k < FARn → foV O J B i k ≤ 6 * (i + 1)) := by
  intro i
  induction i with
  | zero =>
    intro k h0
    unfold foV
    have := sm_b (a := if inBx B k then 0 else FARn) (c := O 0 k) (M := 0) (by unfold FARn; split <;> omega) (hO 0 k h0) (by omega)
    exact ⟨this.1, fun z => by have := this.2 z; omega⟩
  | succ i ih =>
    intro k hi
    unfold foV
    have key := fun (x y : Int) (e : Nat) => sm_b (c := O (i + 1) k) (M := 6 * (i + 1)) (lar_b (fun k => ih k (by omega)) x y e) (hO (i + 1) k hi) (by omega)
    exact ⟨(key _ _ _).1, fun z => by have := (key _ _ _).2 z; omega⟩
theorem beV_b {n : Nat} {O : Nat → Nat → Nat} (hO : okO2 n O) (hn : n ≤ 12) (J : Nat → aLi) : ∀ r k, r < n → beV O J n r k ≤ FARn ∧ (beV O J n r k < FARn → beV O J n r k ≤ 6 * (r + 1)) := by
  intro r
  induction r with
  | zero =>
    intro k h0
    unfold beV
    have := sm_b (a := 0) (c := O (n - 1) k) (M := 0) (by unfold FARn; omega) (hO _ k (by omega)) (by omega)
    exact ⟨this.1, fun z => by have := this.2 z; omega⟩
  | succ r ih =>
    intro k hi
    unfold beV
    have key := fun (x y : Int) (e : Nat) => sm_b (c := O (n - 2 - r) k) (M := 6 * (r + 1)) (lar_b (fun k => ih k (by omega)) x y e) (hO _ k (by omega)) (by omega)
    exact ⟨(key _ _ _).1, fun z => by have := (key _ _ _).2 z; omega⟩
theorem in_n {a lo hi : Nat} (ha : a < 1000) (h1 : lo < 1000) (h2 : hi < 1000) : f_X12_in (nI a) (nI lo) (nI hi) = 0 ↔ ¬ (lo ≤ a ∧ a ≤ hi) := by
  rw [f_in_eq, f_wi, nI_leI (by omega) (by omega), nI_leI (by omega) (by omega)]
section
variable {G : mG} {d : Nat} {b : Nat × Nat} {h : mH} {Q : Option mV → mH → Prop}
theorem m_isInBox {k : Nat} {B : aBx} (hS : mSk h) (hB : bxM h B) (hk : k < 1024) (K : Q (some (.inl (b2i (inBx B k)))) h) : mC G kX12_isInBox (d + 1) b [.inr (some 47), .inl (nI k)] h Q := by
  obtain ⟨⟨b1, b2, b3, b4⟩, o1, o2, o3, o4⟩ := hB
  refine qX12_isInBox _ hS ?_
  rw [b1, b2, b3, b4, L32, ii_rem (by omega) (by omega) (by omega), ii_div (by omega) (by omega) (by omega)]
  unfold inBx at K
  refine ⟨fun z => ?_, fun z w ew => ?_⟩
  · rw [in_n (by omega) (by omega) (by omega)] at z
    rw [decide_eq_false (fun t => z t.1)] at K; exact K
  · rw [in_n (by omega) (by omega) (by omega)] at z
    by_cases z2 : f_X12_in (nI (k / 32)) (nI B.2.1) (nI B.2.2.2) = 0
    · rw [ew, if_pos z2]
      rw [in_n (by omega) (by omega) (by omega)] at z2
      rw [decide_eq_false (fun t => z2 t.2)] at K; exact K
    · rw [ew, if_neg z2]
      rw [in_n (by omega) (by omega) (by omega)] at z2
      rw [decide_eq_true ⟨Classical.byContradiction z, Classical.byContradiction z2⟩] at K; exact K
set_option maxHeartbeats 1000000 in
theorem m_leastAround {a1 i dr : Nat} {x y : Int} {V : Nat → Nat} (hS : mSk h) (ta : mT h a1 = 100) (la : mL h a1 = 12288) (hi : i < 12) (hV : ∀ k, k < 1024 → V k ≤ FARn) (hA : ∀ k, k < 1024 → mI h a1 (1024 * i + k) = nI (V k)) (hx : -100 ≤ x ∧ x ≤ 100) (hy : -100 ≤ y ∧ y ≤ 100) (hd : dr ≤ 3) (K : Q (some (.inl (nI (lar V x y dr)))) h) : mC G kX12_leastAround (d + 1) b [.inr (some 47), .inr (some a1), .inl (nI i), .inl (iI x), .inl (iI y), .inl (nI dr)] h Q := by
  refine qX12_leastAround a1 _ _ _ _ ta hS ?_
  have sD : ∀ z : Int, iI z - nI dr = iI (z - dr) := fun z => by rw [ii_nat, ii_sub]
  have aD : ∀ z : Int, iI z + nI dr = iI (z + dr) := fun z => by rw [ii_nat, ii_add]
  have a1' : ∀ z : Int, iI z + 1 = iI (z + 1) := fun z => by rw [show (1 : Int32) = iI 1 from rfl, ii_add]
  have inner : ∀ (s u t acc : Nat), u + s = 2 * dr + 1 → t < 2 * dr + 1 → isMn (fun k => arP x y dr k ∧ (((k / 32 : Nat) : Int) < y - dr + t ∨ (((k / 32 : Nat) : Int) = y - dr + t ∧ ((k % 32 : Nat) : Int) < x - dr + u))) V acc →
      (∀ acc', isMn (fun k => arP x y dr k ∧ ((k / 32 : Nat) : Int) < y - dr + (t + 1 : Nat)) V acc' → mW G kX12_leastAround (d + 1) b 12 [none, some (.inr (some a1)), some (.inl (nI i)), some (.inl (iI x)), some (.inl (iI y)), some (.inl (nI dr)), some (.inl (nI acc')), some (.inl (iI (y - dr + (t + 1 : Nat)))), none] [] h Q) →
      mW G kX12_leastAround (d + 1) b 28 [none, some (.inr (some a1)), some (.inl (nI i)), some (.inl (iI x)), some (.inl (iI y)), some (.inl (nI dr)), some (.inl (nI acc)), some (.inl (iI (y - dr + t))), some (.inl (iI (x - dr + u)))] [] h Q := by
    intro s
    induction s with
    | zero =>
      intro u t acc hu ht hm KK
      refine qX12_leastAround_28 a1 _ _ _ _ _ _ _ ta hS ?_
      rw [aD, a1' (y - dr + t), ii_lt ⟨by omega, by omega⟩ ⟨by omega, by omega⟩]
      refine ⟨fun _ => ?_, fun z => by omega⟩
      have := KK acc (isMn_eq hm (fun k hk => ?_))
      · rw [show y - (dr : Int) + (t + 1 : Nat) = y - dr + t + 1 by omega] at this; exact this
      · unfold arP; omega
    | succ s ih =>
      intro u t acc hu ht hm KK
      have ih2 := fun acc' hm' => ih (u + 1) t acc' (by omega) ht hm' KK
      rw [show x - (dr : Int) + (u + 1 : Nat) = x - dr + u + 1 by omega] at ih2
      refine qX12_leastAround_28 a1 _ _ _ _ _ _ _ ta hS ?_
      rw [aD, a1' (x - dr + u), ii_lt ⟨by omega, by omega⟩ ⟨by omega, by omega⟩, f_cell_eq]
      refine ⟨fun z => by omega, fun _ => ⟨fun z => ?_, fun z => ?_⟩⟩
      · refine ih2 acc (isMn_eq hm (fun k hk => ?_))
        rw [f_grid, ii_toInt ⟨by omega, by omega⟩, ii_toInt ⟨by omega, by omega⟩] at z
        constructor
        · intro q; exact ⟨q.1, by omega⟩
        · intro q; exact ⟨q.1, by omega⟩
      · rw [f_grid, ii_toInt ⟨by omega, by omega⟩, ii_toInt ⟨by omega, by omega⟩] at z
        have z := Classical.byContradiction z
        obtain ⟨p, hp⟩ : ∃ p : Nat, (p : Int) = x - dr + u := ⟨(x - dr + u).toNat, by omega⟩
        obtain ⟨q, hq⟩ : ∃ q : Nat, (q : Int) = y - dr + t := ⟨(y - dr + t).toNat, by omega⟩
        have ec : (1024 : Int32) * nI i + 32 * iI (y - dr + t) + iI (x - dr + u) = nI (1024 * i + (32 * q + p)) := by
          rw [← hp, ← hq, ← ii_nat, ← ii_nat, L1024, L32, pk_mul, pk_mul, nI_add, nI_add, Nat.add_assoc]
        have hk : 32 * q + p < 1024 := by omega
        have hkm : (32 * q + p) % 32 = p := by omega
        have hkd : (32 * q + p) / 32 = q := by omega
        rw [ec, nI_clamp (by omega), hA _ hk, la, least_n hm.1 (hV _ hk)]
        refine ⟨vp_in_nI (by omega) (by omega), ih2 _ (isMn_add hm hk (hV _ hk) (fun k hk' => ?_))⟩
        constructor
        · intro w
          by_cases e : k = 32 * q + p
          · exact Or.inr e
          · exact Or.inl ⟨w.1, by omega⟩
        · intro w
          rcases w with w | w
          · exact ⟨w.1, by omega⟩
          · refine ⟨?_, by omega⟩
            unfold arP
            rw [w, hkm, hkd]
            omega
  have outer : ∀ (s t acc : Nat), t + s = 2 * dr + 1 → isMn (fun k => arP x y dr k ∧ ((k / 32 : Nat) : Int) < y - dr + t) V acc →
      mW G kX12_leastAround (d + 1) b 12 [none, some (.inr (some a1)), some (.inl (nI i)), some (.inl (iI x)), some (.inl (iI y)), some (.inl (nI dr)), some (.inl (nI acc)), some (.inl (iI (y - dr + t))), none] [] h Q := by
    intro s
    induction s with
    | zero =>
      intro t acc ht hm
      refine qX12_leastAround_12 a1 _ _ _ _ _ _ ta hS ?_
      rw [aD, ii_lt ⟨by omega, by omega⟩ ⟨by omega, by omega⟩]
      refine ⟨fun _ => ?_, fun z => by omega⟩
      have : acc = lar V x y dr := isMn_one (isMn_eq hm (fun k hk => by unfold arP; omega)) (lar_is hV x y dr)
      rw [this]; exact K
    | succ s ih =>
      intro t acc ht hm
      refine qX12_leastAround_12 a1 _ _ _ _ _ _ ta hS ?_
      rw [aD, ii_lt ⟨by omega, by omega⟩ ⟨by omega, by omega⟩, sD x]
      refine ⟨fun z => by omega, fun _ => ?_⟩
      have := inner (2 * dr + 1) 0 t acc (by omega) (by omega) (isMn_eq hm (fun k hk => by unfold arP; omega)) (fun acc' hm' => ih (t + 1) acc' (by omega) hm')
      rw [show x - (dr : Int) + (0 : Nat) = x - dr by omega] at this
      exact this
  have := outer (2 * dr + 1) 0 FARn (by omega) (isMn_no (fun k hk z => by unfold arP at z; omega))
  rw [show y - (dr : Int) + (0 : Nat) = y - dr by omega] at this
  rw [sD y]
  exact this
end
