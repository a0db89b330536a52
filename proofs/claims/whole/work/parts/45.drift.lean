/-! a move with drift -/
theorem bt_moved {row : Int32} {s : Int} {x : Nat} (hs : -31 ≤ s ∧ s ≤ 31) (hx : x < 32) : bt (f_X11_moved row (iI s)) x = true ↔ ∃ sx : Nat, sx < 32 ∧ (x : Int) = sx + s ∧ bt row sx = true := by
  unfold f_X11_moved
  have e0 : iI s < 0 ↔ s < 0 := by rw [show (0 : Int32) = iI 0 from rfl, ii_lt ⟨by omega, by omega⟩ ⟨by omega, by omega⟩]
  by_cases h : s < 0
  · rw [if_pos (e0.mpr h), ii_neg]
    obtain ⟨n, hn⟩ : ∃ n : Nat, (n : Int) = -s := ⟨(-s).toNat, by omega⟩
    rw [← hn, ← ii_nat, bt_ushr n (by omega)]
    constructor
    · intro z
      by_cases hb : n + x < 32
      · exact ⟨n + x, hb, by omega, z⟩
      · rw [bt_big (by omega)] at z; cases z
    · rintro ⟨sx, h1, h2, h3⟩
      rw [show n + x = sx by omega]; exact h3
  · rw [if_neg (fun z => h (e0.mp z))]
    obtain ⟨n, hn⟩ : ∃ n : Nat, (n : Int) = s := ⟨s.toNat, by omega⟩
    rw [← hn, ← ii_nat, bt_shl n (by omega) _ hx]
    constructor
    · intro z
      simp at z
      exact ⟨x - n, by omega, by omega, z.2⟩
    · rintro ⟨sx, h1, h2, h3⟩
      have : n ≤ x := by omega
      rw [show x - n = sx by omega, h3]; simp [this]
def drX (X : Nat → Nat → Bool) (e : Int) (dr x y : Nat) : Prop := ∃ sx : Nat, sx < 32 ∧ (-(dr : Int) ≤ x - e - sx ∧ (x : Int) - e - sx ≤ dr) ∧ X sx y = true
def drB (X : Nat → Nat → Bool) (e f : Int) (dr x y : Nat) : Prop := ∃ sy : Nat, sy < 32 ∧ (-(dr : Int) ≤ y - f - sy ∧ (y : Int) - f - sy ≤ dr) ∧ drX X e dr x sy
def aDr (a to : Nat) : Nat → Nat → Prop := fun x k => x = 30 ∨ (x = a ∧ to ≤ k ∧ k < to + 32)
theorem fmaxI {a z : Int} (ha : inI a) (hz : inI z) : f_max (iI a) (iI z) = iI (max a z) := by
  unfold f_max
  by_cases h : a < z
  · rw [if_pos ((ii_lt ha hz).mpr h), show max a z = z by omega]
  · rw [if_neg (fun q => h ((ii_lt ha hz).mp q)), show max a z = a by omega]
theorem fminI {a z : Int} (ha : inI a) (hz : inI z) : f_min (iI a) (iI z) = iI (min a z) := by
  unfold f_min
  by_cases h : z < a
  · rw [if_pos ((ii_lt hz ha).mpr h), show min a z = z by omega]
  · rw [if_neg (fun q => h ((ii_lt hz ha).mp q)), show min a z = a by omega]
section
variable {G : mG} {d : Nat} {b : Nat × Nat} {h : mH} {Q : Option mV → mH → Prop}
set_option maxHeartbeats 2000000 in
theorem c6_drift {a N fr to lid dr : Nat} {dx dy sg : Int} {X : Nat → Nat → Bool} (hS : mSk h) (ta : mT h a = 100) (la : mL h a = N) (hN : N < 100000) (hfr : fr + 32 ≤ N) (hto : to + 32 ≤ N) (hne : a ≠ 30) (tl : mT h lid = 6) (e0 : mI h lid 0 = iI dx) (e1 : mI h lid 1 = iI dy) (e2 : mI h lid 2 = nI dr) (bx : -9 ≤ dx ∧ dx ≤ 9) (by0 : -9 ≤ dy ∧ dy ≤ 9) (hdr : dr ≤ 3) (hsg : sg = 1 ∨ sg = -1) (hX : ∀ x y, x < 32 → y < 32 → bt (mI h a (fr + y)) x = X x y)
    (K : ∀ h', mFr2 (aDr a to) h h' → (∀ x y, x < 32 → y < 32 → (bt (mI h' a (to + y)) x = true ↔ drB X (sg * dx) (sg * dy) dr x y)) → Q none h') : mC G kX6_drift (d + 1) b [.inr (some 28), .inr (some a), .inl (nI fr), .inl (nI to), .inr (some lid), .inl (iI sg)] h Q := by
  have nl30 : lid ≠ 30 := fun z => by rw [z, skT_30 hS] at tl; omega
  have nla : lid ≠ a := fun z => by rw [z, ta] at tl; omega
  obtain ⟨e, he⟩ : ∃ e : Int, e = sg * dx := ⟨_, rfl⟩
  obtain ⟨f, hf⟩ : ∃ f : Int, f = sg * dy := ⟨_, rfl⟩
  have be : -9 ≤ e ∧ e ≤ 9 := by rcases hsg with rfl | rfl <;> omega
  have bf : -9 ≤ f ∧ f ≤ 9 := by rcases hsg with rfl | rfl <;> omega
  rw [← he, ← hf] at K
  refine qX6_drift a _ _ lid _ ta tl hS ?_
  have second : ∀ h1, mFr2 (fun x _ => x = 30) h h1 → (∀ y x, y < 32 → x < 32 → (bt (mI h1 30 y) x = true ↔ drX X e dr x y)) → mW G kX6_drift (d + 1) b 90 [some (.inr (some 28)), some (.inr (some a)), none, some (.inl (nI to)), some (.inr (some lid)), some (.inl (iI sg)), some (.inl 0), none, none, none, none] [] h1 Q := by
    intro h1 f1 c1
    refine mloop (W := fun y h2 => mW G kX6_drift (d + 1) b 90 [some (.inr (some 28)), some (.inr (some a)), none, some (.inl (nI to)), some (.inr (some lid)), some (.inl (iI sg)), some (.inl (nI y)), none, none, none, none] [] h2 Q)
      (P := fun y h2 => mFr2 (aDr a to) h h2 ∧ (∀ k, mI h2 30 k = mI h1 30 k) ∧ ∀ y', y' < y → ∀ x, x < 32 → (bt (mI h2 a (to + y')) x = true ↔ drB X e f dr x y')) 32 ?_ ?_ 0 h1 (by omega) ⟨f1.wk (fun x k z => Or.inl z), fun _ => rfl, fun y' z => by omega⟩
    · rintro y h2 hy ⟨f2, s2, c2⟩ ih
      have hS2 := f2.1.sk hS
      have ta2 : mT h2 a = 100 := by rw [f2.1.2.1]; exact ta
      have tl2 : mT h2 lid = 6 := by rw [f2.1.2.1]; exact tl
      have g1 : mI h2 lid 1 = iI dy := by rw [f2.2 _ _ (fun z => by unfold aDr at z; omega)]; exact e1
      have g2 : mI h2 lid 2 = nI dr := by rw [f2.2 _ _ (fun z => by unfold aDr at z; omega)]; exact e2
      refine qX6_drift_90 a _ lid _ _ ta2 tl2 hS2 ⟨fun z => absurd z (nI_ge (b := 32) hy (by omega)), fun _ => ?_⟩
      rw [g1, g2, ii_mul, ← hf, ii_nat y, ii_sub, ii_nat dr, ii_add, ii_sub, show (31 : Int32) = iI 31 from rfl, show (0 : Int32) = iI 0 from rfl, fminI ⟨by omega, by omega⟩ ⟨by omega, by omega⟩, fmaxI ⟨by omega, by omega⟩ ⟨by omega, by omega⟩]
      obtain ⟨hi, hhi⟩ : ∃ hi : Int, hi = min 31 ((y : Int) - f + dr) := ⟨_, rfl⟩
      obtain ⟨lo, hlo⟩ : ∃ lo : Int, lo = max 0 ((y : Int) - f - dr) := ⟨_, rfl⟩
      rw [← hhi, ← hlo]
      have lp : ∀ (r : Nat) (s : Int) (acc : Int32), hi + 1 - s ≤ r → lo ≤ s → (s ≤ hi + 1 ∨ s = lo) → (∀ x, x < 32 → (bt acc x = true ↔ ∃ sy : Nat, lo ≤ sy ∧ (sy : Int) < s ∧ drX X e dr x sy)) → mW G kX6_drift (d + 1) b 151 [some (.inr (some 28)), some (.inr (some a)), none, some (.inl (nI to)), some (.inr (some lid)), some (.inl (iI sg)), some (.inl (iI y)), none, some (.inl (iI hi)), some (.inl acc), some (.inl (iI s))] [] h2 Q := by
        have done : ∀ (s : Int) (acc : Int32), hi < s → lo ≤ s → s ≤ 60 → (s ≤ hi + 1 ∨ s = lo) → (∀ x, x < 32 → (bt acc x = true ↔ ∃ sy : Nat, lo ≤ sy ∧ (sy : Int) < s ∧ drX X e dr x sy)) → mW G kX6_drift (d + 1) b 151 [some (.inr (some 28)), some (.inr (some a)), none, some (.inl (nI to)), some (.inr (some lid)), some (.inl (iI sg)), some (.inl (iI y)), none, some (.inl (iI hi)), some (.inl acc), some (.inl (iI s))] [] h2 Q := by
          intro s acc h3 h4 h6 h5 hb
          refine qX6_drift_151 a _ lid _ _ _ _ _ ta2 tl2 hS2 ?_
          rw [ii_lt ⟨by omega, by omega⟩ ⟨by omega, by omega⟩, ← ii_nat y, nI_add, nI_clamp (by omega), nI_1, f2.1.2.2.1, la]
          refine ⟨fun _ => ⟨vp_in_nI (by omega) (by omega), fun h3 e3 => ?_⟩, fun z => absurd (by assumption) z⟩
          subst e3
          refine ih _ ⟨f2.tr (mFr2.SI (Or.inr ⟨rfl, by omega, by omega⟩)), fun k => by rw [mI_SI_a (by omega)]; exact s2 k, fun y' hy' x hx => ?_⟩
          by_cases q : y' = y
          · rw [q, mI_SI_s, hb x hx]
            unfold drB
            constructor
            · rintro ⟨sy, q1, q2, q3⟩
              exact ⟨sy, by omega, by omega, q3⟩
            · rintro ⟨sy, q1, q2, q3⟩
              exact ⟨sy, by omega, by omega, q3⟩
          · rw [mI_SI_k (by omega)]; exact c2 y' (by omega) x hx
        intro r
        induction r with
        | zero =>
          intro s acc h3 h4 h5 hb
          exact done s acc (by omega) h4 (by omega) h5 hb
        | succ r ihr =>
          intro s acc h3 h4 h5 hb
          by_cases hq : hi < s
          · exact done s acc hq h4 (by omega) h5 hb
          · obtain ⟨n, hn⟩ : ∃ n : Nat, (n : Int) = s := ⟨s.toNat, by omega⟩
            refine qX6_drift_151 a _ lid _ _ _ _ _ ta2 tl2 hS2 ?_
            rw [ii_lt ⟨by omega, by omega⟩ ⟨by omega, by omega⟩, ← hn, ← ii_nat n, nI_clamp (by omega), nI_1, ii_nat (n + 1)]
            refine ⟨fun z => absurd z (by omega), fun _ => ⟨vp_in_nI (by omega) (by omega), ihr _ _ (by omega) (by omega) (by omega) (fun x hx => ?_)⟩⟩
            rw [bt_or, Bool.or_eq_true, hb x hx, s2, c1 n x (by omega) hx]
            constructor
            · rintro (⟨sy, q1, q2, q3⟩ | q)
              · exact ⟨sy, q1, by omega, q3⟩
              · exact ⟨n, by omega, by omega, q⟩
            · rintro ⟨sy, q1, q2, q3⟩
              by_cases q : sy = n
              · rw [q] at q3; exact Or.inr q3
              · exact Or.inl ⟨sy, q1, by omega, q3⟩
      exact lp 100 lo (iI 0) (by omega) (by omega) (Or.inr rfl) (fun x hx => ⟨fun z => (by rw [show iI 0 = (0 : Int32) from rfl, bt_0] at z; cases z), fun ⟨sy, q1, q2, _⟩ => by omega⟩)
    · rintro h2 ⟨f2, s2, c2⟩
      refine qX6_drift_90 a _ lid _ _ (by rw [f2.1.2.1]; exact ta) (by rw [f2.1.2.1]; exact tl) (f2.1.sk hS) ⟨fun _ => K h2 f2 (fun x y hx hy => c2 y hy x hx), fun z => absurd (by decide) z⟩
  refine mloop (W := fun y h1 => mW G kX6_drift (d + 1) b 3 [some (.inr (some 28)), some (.inr (some a)), some (.inl (nI fr)), some (.inl (nI to)), some (.inr (some lid)), some (.inl (iI sg)), some (.inl (nI y)), none, none, none, none] [] h1 Q)
    (P := fun y h1 => mFr2 (fun x _ => x = 30) h h1 ∧ ∀ y' x, y' < y → x < 32 → (bt (mI h1 30 y') x = true ↔ drX X e dr x y')) 32 ?_ ?_ 0 h (by omega) ⟨mFr2.rf, fun y' x z => by omega⟩
  · rintro y h1 hy ⟨f1, c1⟩ ih
    have hS1 := f1.1.sk hS
    have ta1 : mT h1 a = 100 := by rw [f1.1.2.1]; exact ta
    have tl1 : mT h1 lid = 6 := by rw [f1.1.2.1]; exact tl
    refine qX6_drift_3 a _ _ lid _ _ ta1 tl1 hS1 ⟨fun z => absurd z (nI_ge (b := 32) hy (by omega)), fun _ => ?_⟩
    rw [nI_add, nI_clamp (by omega), nI_clamp (by omega), f1.1.2.2.1, la, f1.2 a _ (fun z => hne z)]
    refine ⟨vp_in_nI (by omega) (by omega), vp_in_nI (by omega) (by omega), fun h3 e3 => ?_⟩
    have f3 : mFr2 (fun x _ => x = 30) h h3 := by rw [e3]; exact f1.tr (mFr2.SI rfl)
    have g2 : mI h3 lid 2 = nI dr := by rw [f3.2 _ _ (fun z => nl30 z)]; exact e2
    have z30 : mI h3 30 y = 0 := by rw [e3, mI_SI_s]
    have c3 : ∀ y' x, y' < y → x < 32 → (bt (mI h3 30 y') x = true ↔ drX X e dr x y') := fun y' x q1 q2 => by rw [e3, mI_SI_k (by omega)]; exact c1 y' x q1 q2
    rw [g2, ii_nat dr, ii_neg]
    have em : iI (-(dr : Int)) = iI (-(dr : Int) + (0 : Nat)) := by congr 1; omega
    rw [em]
    refine mloop (W := fun u h4 => mW G kX6_drift (d + 1) b 34 [some (.inr (some 28)), some (.inr (some a)), some (.inl (nI fr)), some (.inl (nI to)), some (.inr (some lid)), some (.inl (iI sg)), some (.inl (nI y)), some (.inl (mI h a (fr + y))), some (.inl (iI (-(dr : Int) + u))), none, none] [] h4 Q)
      (P := fun u h4 => mFr2 (fun x _ => x = 30) h h4 ∧ (∀ y' x, y' < y → x < 32 → (bt (mI h4 30 y') x = true ↔ drX X e dr x y')) ∧ ∀ x, x < 32 → (bt (mI h4 30 y) x = true ↔ ∃ sx : Nat, sx < 32 ∧ (-(dr : Int) ≤ x - e - sx ∧ (x : Int) - e - sx < -(dr : Int) + u) ∧ X sx y = true)) (2 * dr + 1) ?_ ?_ 0 h3 (by omega) ⟨f3, c3, fun x hx => ⟨fun z => (by rw [z30, bt_0] at z; cases z), fun ⟨sx, q1, q2, _⟩ => by omega⟩⟩
    · rintro u h4 hu ⟨f4, c4, c5⟩ ih2
      have hS4 := f4.1.sk hS
      have k2 : mI h4 lid 2 = nI dr := by rw [f4.2 _ _ (fun z => nl30 z)]; exact e2
      have k0 : mI h4 lid 0 = iI dx := by rw [f4.2 _ _ (fun z => nl30 z)]; exact e0
      refine qX6_drift_34 a _ _ lid _ _ _ _ (by rw [f4.1.2.1]; exact ta) (by rw [f4.1.2.1]; exact tl) hS4 ⟨fun z => ?_, fun z => ⟨fun z2 => ?_, fun _ => ?_⟩⟩
      · rw [nI_1]
        refine ih h4 ⟨f4, fun y' x q1 q2 => ?_⟩
        by_cases q : y' = y
        · rw [q, c5 x q2]
          constructor
          · rintro ⟨sx, w1, w2, w3⟩
            rw [← hX sx y w1 hy, z, bt_0] at w3; cases w3
          · rintro ⟨sx, w1, w2, w3⟩
            rw [← hX sx y w1 hy, z, bt_0] at w3; cases w3
        · exact c4 y' x (by omega) q2
      · rw [k2, ii_nat, ii_lt ⟨by omega, by omega⟩ ⟨by omega, by omega⟩] at z2; omega
      · rw [nI_clamp (by omega), k0, ii_mul, ← he, ii_add, show (1 : Int32) = iI 1 from rfl, ii_add]
        refine ⟨vp_in_nI (by omega) (by omega), vp_in_nI (by omega) (by omega), fun h5 e5 => ?_⟩
        subst e5
        have := ih2 (mSI h4 30 y (mI h4 30 y ||| f_X11_moved (mI h a (fr + y)) (iI (e + (-(dr : Int) + u))))) ⟨f4.tr (mFr2.SI rfl), fun y' x q1 q2 => by rw [mI_SI_k (by omega)]; exact c4 y' x q1 q2, fun x hx => ?_⟩
        · rw [show -(dr : Int) + (u + 1 : Nat) = -(dr : Int) + u + 1 by omega] at this
          exact this
        · rw [mI_SI_s, bt_or, Bool.or_eq_true, c5 x hx, bt_moved (by omega) hx]
          constructor
          · rintro (⟨sx, w1, w2, w3⟩ | ⟨sx, w1, w2, w3⟩)
            · exact ⟨sx, w1, by omega, w3⟩
            · exact ⟨sx, w1, by omega, by rw [← hX sx y w1 hy]; exact w3⟩
          · rintro ⟨sx, w1, w2, w3⟩
            by_cases q : (x : Int) - e - sx = -(dr : Int) + u
            · exact Or.inr ⟨sx, w1, by omega, by rw [hX sx y w1 hy]; exact w3⟩
            · exact Or.inl ⟨sx, w1, by omega, w3⟩
    · rintro h4 ⟨f4, c4, c5⟩
      have hS4 := f4.1.sk hS
      have k2 : mI h4 lid 2 = nI dr := by rw [f4.2 _ _ (fun z => nl30 z)]; exact e2
      have go : mW G kX6_drift (d + 1) b 3 [some (.inr (some 28)), some (.inr (some a)), some (.inl (nI fr)), some (.inl (nI to)), some (.inr (some lid)), some (.inl (iI sg)), some (.inl (nI y + 1)), none, none, none, none] [] h4 Q := by
        rw [nI_1]
        refine ih h4 ⟨f4, fun y' x q1 q2 => ?_⟩
        by_cases q : y' = y
        · rw [q, c5 x q2]
          constructor
          · rintro ⟨sx, w1, w2, w3⟩; exact ⟨sx, w1, by omega, w3⟩
          · rintro ⟨sx, w1, w2, w3⟩; exact ⟨sx, w1, by omega, w3⟩
        · exact c4 y' x (by omega) q2
      refine qX6_drift_34 a _ _ lid _ _ _ _ (by rw [f4.1.2.1]; exact ta) (by rw [f4.1.2.1]; exact tl) hS4 ⟨fun _ => go, fun _ => ⟨fun _ => go, fun z => absurd ?_ z⟩⟩
      rw [k2, ii_nat, ii_lt ⟨by omega, by omega⟩ ⟨by omega, by omega⟩]; omega
  · rintro h1 ⟨f1, c1⟩
    exact qX6_drift_3 a _ _ lid _ _ (by rw [f1.1.2.1]; exact ta) (by rw [f1.1.2.1]; exact tl) (f1.1.sk hS) ⟨fun _ => second h1 f1 (fun y x hy hx => c1 y x hy hx), fun z => absurd (by decide) z⟩
end
