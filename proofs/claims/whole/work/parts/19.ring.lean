/-! the model reads a ring -/
section
variable {G : mG} {d : Nat} {b : Nat × Nat} {h : mH} {Q : Option mV → mH → Prop}
/-- a side, out of four numbers -/
def sdB (i x x' y y' : Nat) : Bool := if i % 2 = 0 then decide (y = y') && !decide (x = x') else decide (x = x') && !decide (y = y')
theorem rem2_n {i : Nat} (h : i < 2147483648) : m_rem (nI i) 2 = nI (i % 2) := ii_rem (b := 2) h (by decide) (by decide)
theorem m_isSide {c i n x x' y y' : Nat} (hS : mSk h) (hc : c < 8) (hi : i < n) (hn : n ≤ 16) (e0 : mI h 48 c = nI n) (ex : mI h 49 (16 * c + i) = nI x) (ex' : mI h 49 (16 * c + nxt n i) = nI x') (ey : mI h 50 (16 * c + i) = nI y) (ey' : mI h 50 (16 * c + nxt n i) = nI y') (bx : x < 256 ∧ x' < 256 ∧ y < 256 ∧ y' < 256)
    (K : Q (some (.inl (b2i (sdB i x x' y y')))) h) : mC G kX12_isSide (d + 1) b [.inr (some 47), .inl (nI c), .inl (nI i)] h Q := by
  have hnx := nxt_lt hi
  refine qX12_isSide _ _ hS ?_
  refine qX12_next0 _ _ hS ⟨vp_in_nI hc (by omega), fun w hw => ?_⟩
  rw [nI_clamp (by omega), e0, nI_1] at hw
  have he : nI (i + 1) = nI n ↔ i + 1 = n := nI_eq (by omega) (by omega)
  have hw2 : w = nI (nxt n i) := by
    rw [hw]; unfold nxt
    by_cases hx : i + 1 = n
    · rw [if_neg (fun z => z (he.mpr hx)), if_pos hx]; rfl
    · rw [if_pos (fun z => hx (he.mp z)), if_neg hx]
  rw [hw2, L16, pk_mul, nI_add, nI_add, rem2_n (by omega)]
  refine ⟨_, rfl, hS, ?_⟩
  rw [nI_clamp (by omega), nI_clamp (by omega), ex, ex', ey, ey']
  have v1 : vp_in (nI (16 * c + i)) 128 := vp_in_nI (by omega) (by omega)
  have v2 : vp_in (nI (16 * c + nxt n i)) 128 := vp_in_nI (by omega) (by omega)
  have q1 : nI x = nI x' ↔ x = x' := nI_eq (by omega) (by omega)
  have q2 : nI y = nI y' ↔ y = y' := nI_eq (by omega) (by omega)
  unfold sdB at K
  rcases (show i % 2 = 0 ∨ i % 2 = 1 by omega) with hp | hp
  · rw [hp]
    rw [if_pos hp] at K
    refine ⟨fun z => absurd rfl z, fun _ => ⟨v1, v2, fun z => ?_, fun z => ⟨v1, v2, fun w7 e7 => ?_⟩⟩⟩
    · rw [show decide (y = y') = false from by simp; exact fun q => z (q2.mpr q)] at K
      exact K
    · rw [show decide (y = y') = true from by simp; exact q2.mp z] at K
      by_cases hx : x = x'
      · rw [if_pos (q1.mpr hx)] at e7
        rw [show decide (x = x') = true from by simp; exact hx] at K
        rw [e7]; exact K
      · rw [if_neg (fun q => hx (q1.mp q))] at e7
        rw [show decide (x = x') = false from by simp; exact hx] at K
        rw [e7]; exact K
  · rw [hp]
    rw [if_neg (by omega)] at K
    refine ⟨fun _ => ⟨v1, v2, fun z => ?_, fun z => ⟨v1, v2, fun w7 e7 => ?_⟩⟩, fun z => absurd z (by decide)⟩
    · rw [show decide (x = x') = false from by simp; exact fun q => z (q1.mpr q)] at K
      exact K
    · rw [show decide (x = x') = true from by simp; exact q1.mp z] at K
      by_cases hx : y = y'
      · rw [if_pos (q2.mpr hx)] at e7
        rw [show decide (y = y') = true from by simp; exact hx] at K
        rw [e7]; exact K
      · rw [if_neg (fun q => hx (q2.mp q))] at e7
        rw [show decide (y = y') = false from by simp; exact hx] at K
        rw [e7]; exact K
def aRng (c : Nat) : Nat → Nat → Prop := fun a k => (a = 48 ∧ k = c) ∨ ((a = 49 ∨ a = 50 ∨ a = 51) ∧ 16 * c ≤ k ∧ k < 16 * c + 16)
theorem sdB_jn (t : Nat → Nat) (u v : Nat) : sdB u (t (2 * u)) (t (2 * v)) (t (2 * u + 1)) (t (2 * v + 1)) = jnT t u v := rfl
set_option maxHeartbeats 2000000 in
theorem m_firstWrong {c m n : Nat} {t : Nat → Nat} (hS : mSk h) (hT : ∀ j, j < m → t j < 256 ∧ mI h 57 j = sb8 (t j)) (hm : m ≤ 220) (hc : c < 8) (ec : mI h 47 0 = nI c) (hn : 4 ≤ n ∧ n ≤ 16) (h3 : 3 * n ≤ m)
    (K1 : ∀ p h', mFr2 (aRng c) h h' → isBd t n p → Q (some (.inl (nI p))) h')
    (K2 : ∀ h', mFr2 (aRng c) h h' → noBd t n → mI h' 48 c = nI n → (∀ i, i < n → mI h' 49 (16 * c + i) = nI (t (2 * i)) ∧ mI h' 50 (16 * c + i) = nI (t (2 * i + 1)) ∧ mI h' 51 (16 * c + i) = nI (t (2 * n + i))) → Q (some (.inl (-1))) h') : mC G kX12_firstWrong (d + 2) b [.inr (some 47), .inl (nI n)] h Q := by
  refine qX12_firstWrong _ hS ⟨by rw [ec]; exact vp_in_nI hc (by omega), fun h0 e0 => ?_⟩
  rw [ec]
  rw [ec, nI_clamp (by omega)] at e0
  have f0 : mFr2 (aRng c) h h0 := by rw [e0]; exact mFr2.SI (Or.inl ⟨rfl, rfl⟩)
  have n0 : mI h0 48 c = nI n := by rw [e0, mI_SI_s]
  have tape : ∀ h1, mFr2 (aRng c) h h1 → ∀ j, j < m → mI h1 57 j = sb8 (t j) := fun h1 f j hj => by
    rw [f.2 57 j (fun z => by unfold aRng at z; omega)]; exact (hT j hj).2
  refine mloop (W := fun i h1 => mW G kX12_firstWrong (d + 2) b 14 [some (.inr (some 47)), some (.inl (nI n)), some (.inl (nI c)), some (.inl (nI i))] [] h1 Q)
    (P := fun i h1 => mFr2 (aRng c) h h1 ∧ mI h1 48 c = nI n ∧ (∀ j, j < i → bdT t n j = none) ∧ ∀ j, j < i → mI h1 49 (16 * c + j) = nI (t (2 * j)) ∧ mI h1 50 (16 * c + j) = nI (t (2 * j + 1))) n ?_ ?_ 0 h0 (by omega) ⟨f0, n0, fun j hj => by omega, fun j hj => by omega⟩
  · rintro i h1 hi ⟨f1, n1, a1, c1⟩ ih
    have hS1 := f1.1.sk hS
    have t1 := (hT (2 * i) (by omega)).1
    have t2 := (hT (2 * i + 1) (by omega)).1
    have hcx : (16 : Int32) * nI c + nI i = nI (16 * c + i) := by rw [L16, pk_mul, nI_add]
    refine qX12_firstWrong_14 _ _ _ hS1 ⟨fun z => ?_, fun _ => ?_⟩
    · rw [nI_leI (by omega) (by omega)] at z; omega
    · rw [hcx, L2, pk_mul, nI_1, nI_1, nI_clamp (by omega), nI_clamp (by omega), nI_clamp (by omega), tape h1 f1 _ (by omega), tape h1 f1 _ (by omega)]
      have v1 : vp_in (nI (2 * i)) 220 := vp_in_nI (by omega) (by omega)
      have v2 : vp_in (nI (2 * i + 1)) 220 := vp_in_nI (by omega) (by omega)
      have v3 : vp_in (nI (16 * c + i)) 128 := vp_in_nI (by omega) (by omega)
      refine ⟨v1, fun z1 => ⟨v2, fun z2 => ⟨v1, v3, fun h5 e5 => ⟨v2, v3, fun h8 e8 => ?_⟩⟩, fun z2 => ?_⟩, fun z1 => ?_⟩
      · rw [sb8_cor _ t1] at z1
        rw [sb8_cor _ t2] at z2
        have f5 : mFr2 (aRng c) h h5 := by rw [e5]; exact f1.tr (mFr2.SI (Or.inr ⟨Or.inl rfl, by omega, by omega⟩))
        rw [tape h5 f5 _ (by omega)] at e8
        have f8 : mFr2 (aRng c) h h8 := by rw [e8]; exact f5.tr (mFr2.SI (Or.inr ⟨Or.inr (Or.inl rfl), by omega, by omega⟩))
        have hS8 := f8.1.sk hS
        have n8 : mI h8 48 c = nI n := by rw [e8, mI_SI_a (by decide), e5, mI_SI_a (by decide)]; exact n1
        have c8 : ∀ j, j < i + 1 → mI h8 49 (16 * c + j) = nI (t (2 * j)) ∧ mI h8 50 (16 * c + j) = nI (t (2 * j + 1)) := by
          intro j hj
          rw [e8, mI_SI_a (a' := 49) (by decide), mI_SI, e5, mI_SI, mI_SI_a (a' := 50) (by decide)]
          by_cases hji : j = i
          · rw [if_pos ⟨rfl, by omega⟩, if_pos ⟨rfl, by omega⟩, hji, sb8_id _ (by omega), sb8_id _ (by omega)]
            exact ⟨rfl, rfl⟩
          · rw [if_neg (by omega), if_neg (by omega)]
            exact c1 j (by omega)
        have hlast : nI i = nI n - 1 ↔ i + 1 = n := by
          rw [show nI n - 1 = nI (n - 1) from by rw [show n = (n - 1) + 1 by omega]; exact nI_pred _, nI_eq (by omega) (by omega)]; omega
        have hb : (0 < i ∧ jnT t (i - 1) i = false) ∨ (i + 1 = n ∧ jnT t i 0 = false) → bdT t n i = some (2 * i) := fun q => by
          unfold bdT; rw [if_neg (by omega), if_neg (by omega), if_pos q]
        have hg : ¬ ((0 < i ∧ jnT t (i - 1) i = false) ∨ (i + 1 = n ∧ jnT t i 0 = false)) → bdT t n i = none := fun q => by
          unfold bdT; rw [if_neg (by omega), if_neg (by omega), if_neg q]
        have next : bdT t n i = none → mW G kX12_firstWrong (d + 2) b 14 [some (.inr (some 47)), some (.inl (nI n)), some (.inl (nI c)), some (.inl (nI (i + 1)))] [] h8 Q := fun e => ih h8 ⟨f8, n8, fun j hj => by
          rcases (show j < i ∨ j = i by omega) with q | q
          · exact a1 j q
          · rw [q]; exact e, c8⟩
        have bad : bdT t n i = some (2 * i) → Q (some (.inl (nI (2 * i)))) h8 := fun e => K1 _ h8 f8 (Or.inl ⟨i, hi, e, a1⟩)
        have last : i + 1 = n → (∀ P : Prop, P → P) → mC G kX12_isSide (d + 1) (0, 0) [.inr (some 47), .inl (nI c), .inl (nI i)] h8 (fun r h9 => ∃ x10, r = some (.inl x10) ∧ mSk h9 ∧ ((¬ x10 = 0 → jnT t i 0 = true ∧ h9 = h8) ∧ (x10 = 0 → jnT t i 0 = false ∧ h9 = h8))) := fun hl _ => by
          have hz : nxt n i = 0 := if_pos hl
          refine m_isSide (x := t (2 * i)) (x' := t (2 * 0)) (y := t (2 * i + 1)) (y' := t (2 * 0 + 1)) hS8 hc hi hn.2 n8 (c8 i (by omega)).1 (by rw [hz]; exact (c8 0 (by omega)).1) (c8 i (by omega)).2 (by rw [hz]; exact (c8 0 (by omega)).2) ⟨t1, (hT 0 (by omega)).1, t2, (hT 1 (by omega)).1⟩ ⟨_, rfl, hS8, ?_⟩
          rw [sdB_jn]
          refine ⟨fun z => ⟨?_, rfl⟩, fun z => ⟨b2i_0.mp z, rfl⟩⟩
          cases hj : jnT t i 0 with
          | true => rfl
          | false => rw [hj] at z; exact absurd rfl z
        refine ⟨fun y => ⟨fun z => next (hg ?_), fun z => ?_⟩, fun y => ?_⟩
        · have hi0 : i = 0 := by rw [show (0 : Int32) = nI 0 from rfl, nI_leI (by omega) (by omega)] at y; omega
          rintro (q | q)
          · omega
          · exact z (hlast.mpr q.1)
        · have hi0 : i = 0 := by rw [show (0 : Int32) = nI 0 from rfl, nI_leI (by omega) (by omega)] at y; omega
          have := hlast.mp z
          omega
        · have hi0 : 0 < i := by rw [show (0 : Int32) = nI 0 from rfl, nI_leI (by omega) (by omega)] at y; omega
          have hpz : nxt n (i - 1) = i := by unfold nxt; rw [if_neg (by omega)]; omega
          rw [show nI i - 1 = nI (i - 1) from by rw [show i = (i - 1) + 1 by omega]; exact nI_pred _]
          refine m_isSide (x := t (2 * (i - 1))) (x' := t (2 * i)) (y := t (2 * (i - 1) + 1)) (y' := t (2 * i + 1)) hS8 hc (by omega) hn.2 n8 (c8 (i - 1) (by omega)).1 (by rw [hpz]; exact (c8 i (by omega)).1) (c8 (i - 1) (by omega)).2 (by rw [hpz]; exact (c8 i (by omega)).2) ⟨(hT _ (by omega)).1, t1, (hT _ (by omega)).1, t2⟩ ⟨_, rfl, hS8, ?_⟩
          rw [sdB_jn]
          refine ⟨fun z => bad (hb (Or.inl ⟨hi0, b2i_0.mp z⟩)), fun z => ?_⟩
          have hj : jnT t (i - 1) i = true := by
            cases hj : jnT t (i - 1) i with
            | true => rfl
            | false => rw [hj] at z; exact absurd rfl z
          refine ⟨fun y2 => next (hg ?_), fun y2 => ?_⟩
          · rintro (q | q)
            · rw [hj] at q; cases q.2
            · exact y2 (hlast.mpr q.1)
          · have hl := hlast.mp y2
            refine mC_mono (fun r h9 hr => ?_) (last hl (fun _ p => p))
            obtain ⟨x10, er, s9, g1, g2⟩ := hr
            refine ⟨x10, er, s9, fun y3 => ?_, fun y3 => ?_⟩
            · obtain ⟨j1, rfl⟩ := g1 y3
              refine next (hg ?_)
              rintro (q | q)
              · rw [hj] at q; cases q.2
              · rw [j1] at q; cases q.2
            · obtain ⟨j1, rfl⟩ := g2 y3
              exact bad (hb (Or.inr ⟨hl, j1⟩))
      · rw [sb8_cor _ t1] at z1
        rw [sb8_cor _ t2] at z2
        exact K1 _ h1 f1 (Or.inl ⟨i, hi, by unfold bdT; rw [if_neg (by omega), if_pos (by omega)], a1⟩)
      · rw [sb8_cor _ t1] at z1
        exact K1 _ h1 f1 (Or.inl ⟨i, hi, by unfold bdT; rw [if_pos (by omega)], a1⟩)
  · rintro h1 ⟨f1, n1, a1, c1⟩
    refine qX12_firstWrong_14 _ _ _ (f1.1.sk hS) ⟨fun _ => ?_, fun z => absurd (Int32.le_refl _) z⟩
    refine mloop (W := fun i h2 => mW G kX12_firstWrong (d + 2) b 142 [some (.inr (some 47)), some (.inl (nI n)), some (.inl (nI c)), some (.inl (nI i))] [] h2 Q)
      (P := fun i h2 => mFr2 (aRng c) h h2 ∧ mI h2 48 c = nI n ∧ (∀ j, j < n → mI h2 49 (16 * c + j) = nI (t (2 * j)) ∧ mI h2 50 (16 * c + j) = nI (t (2 * j + 1))) ∧ ∀ j, j < i → t (2 * n + j) ≤ 2 ∧ mI h2 51 (16 * c + j) = nI (t (2 * n + j))) n ?_ ?_ 0 h1 (by omega) ⟨f1, n1, c1, fun j hj => by omega⟩
    · rintro i h2 hi ⟨f2, n2, c2, s2⟩ ih
      have t1 := (hT (2 * n + i) (by omega)).1
      have hcx : (16 : Int32) * nI c + nI i = nI (16 * c + i) := by rw [L16, pk_mul, nI_add]
      refine qX12_firstWrong_142 _ _ _ (f2.1.sk hS) ⟨fun z => ?_, fun _ => ?_⟩
      · rw [nI_leI (by omega) (by omega)] at z; omega
      · rw [hcx, show (2 : Int32) * nI n + nI i = nI (2 * n + i) from by rw [L2, pk_mul, nI_add], nI_clamp (by omega), nI_clamp (by omega), tape h2 f2 _ (by omega)]
        refine ⟨vp_in_nI (by omega) (by omega), fun z => ⟨vp_in_nI (by omega) (by omega), vp_in_nI (by omega) (by omega), fun h4 e4 => ?_⟩, fun z => ?_⟩
        · rw [sb8_in2 _ t1] at z
          rw [nI_1]
          subst e4
          refine ih _ ⟨f2.tr (mFr2.SI (Or.inr ⟨Or.inr (Or.inr rfl), by omega, by omega⟩)), by rw [mI_SI_a (by decide)]; exact n2, fun j hj => by rw [mI_SI_a (by decide), mI_SI_a (by decide)]; exact c2 j hj, fun j hj => ?_⟩
          rw [mI_SI]
          by_cases hji : j = i
          · rw [if_pos ⟨rfl, by omega⟩, hji, sb8_id _ (by omega)]
            exact ⟨by omega, rfl⟩
          · rw [if_neg (by omega)]
            exact s2 j (by omega)
        · rw [sb8_in2 _ t1] at z
          exact K1 _ h2 f2 (Or.inr ⟨a1, i, hi, z, rfl, fun j hj => (s2 j hj).1⟩)
    · rintro h2 ⟨f2, n2, c2, s2⟩
      refine qX12_firstWrong_142 _ _ _ (f2.1.sk hS) ⟨fun _ => K2 h2 f2 ⟨a1, fun j hj => (s2 j hj).1⟩ n2 (fun i hi => ⟨(c2 i hi).1, (c2 i hi).2, (s2 i hi).2⟩), fun z => absurd (Int32.le_refl _) z⟩
end
