/-! THE LAW'S ORDERS, AND WHAT THEY COME TO -/
abbrev aCd : Type := Nat → Nat × Nat
def oP (A : aCd) (p : Nat) : Nat := (A p).1
def oV (A : aCd) (p : Nat) : Nat := (A p).2
def rk (o : Nat) (x y : Int32) : Int32 := if o = 2 then x + y else if o = 3 then x - y else if o = 4 then x * y else if o = 5 then x / y else if o = 6 then m_rem x y else if o = 7 then (if y ≤ x then 0 else 1) else if o = 8 then (if x ≤ y then 0 else 1) else (if ¬ x = y then 0 else 1)
def sU (S : Nat → Int32) (k : Nat) (v : Int32) : Nat → Int32 := fun j => if j = k then v else S j
def evA (A : aCd) (F : Nat → Int32) (to : Nat) : Nat → Nat → Nat → (Nat → Int32) → Int32
  | 0, _, _, S => S 0
  | r + 1, p, n, S => if to ≤ p then S 0
    else if oP A p = 0 then evA A F to r (p + 1) (n + 1) (sU S n (nI (oV A p)))
    else if oP A p = 1 then evA A F to r (p + 1) (n + 1) (sU S n (F (oV A p)))
    else if oP A p = 10 then evA A F to r (p + 1) n (sU S (n - 1) (1 - S (n - 1)))
    else if oP A p = 11 then (if S (n - 1) = 0 then evA A F to r (oV A p) n S else evA A F to r (p + 1) (n - 1) S)
    else if oP A p = 12 then (if S (n - 1) = 1 then evA A F to r (oV A p) n S else evA A F to r (p + 1) (n - 1) S)
    else if (oP A p = 5 ∨ oP A p = 6) ∧ S (n - 1) = 0 then 0
    else evA A F to r (p + 1) (n - 1) (sU S (n - 2) (rk (oP A p) (S (n - 2)) (S (n - 1))))
/-- an order fits what lies on the stack: T says how many numbers lie there before each order; 100: a truth alone -/
def okO (A : aCd) (T : Nat → Nat) (to p : Nat) : Prop :=
  (oP A p ≤ 1 ∧ T p < 20 ∧ T (p + 1) = T p + 1 ∧ oV A p < 100000 ∧ (oP A p = 1 → oV A p < 9)) ∨
  (2 ≤ oP A p ∧ oP A p ≤ 6 ∧ 2 ≤ T p ∧ T p ≤ 20 ∧ T (p + 1) = T p - 1 ∧ oV A p = 0) ∨
  (7 ≤ oP A p ∧ oP A p ≤ 9 ∧ T p = 2 ∧ T (p + 1) = 100 ∧ oV A p = 0) ∨
  (oP A p = 10 ∧ T p = 100 ∧ T (p + 1) = 100 ∧ oV A p = 0) ∨
  ((oP A p = 11 ∨ oP A p = 12) ∧ T p = 100 ∧ T (p + 1) = 0 ∧ p < oV A p ∧ oV A p ≤ to ∧ T (oV A p) = 100)
def okC (A : aCd) (T : Nat → Nat) (fr to fin : Nat) : Prop := T fr = 0 ∧ T to = fin ∧ fr ≤ to ∧ to ≤ 160 ∧ ∀ p, fr ≤ p → p < to → okO A T to p
theorem okO.b {A : aCd} {T : Nat → Nat} {to p : Nat} (h : okO A T to p) (ht : to ≤ 160) : oP A p ≤ 12 ∧ oV A p < 100000 := by
  unfold okO at h; omega
def nT (t : Nat) : Nat := if t = 100 then 1 else t
theorem evA_0 {A : aCd} {F : Nat → Int32} {to r p n : Nat} {S : Nat → Int32} (h : to ≤ p) : evA A F to r p n S = S 0 := by
  cases r with
  | zero => rfl
  | succ r => unfold evA; rw [if_pos h]
/-! the model -/
def cdM (h : mH) (A : aCd) (to : Nat) : Prop := ∀ p, p < to → mI h 63 p = nI (1048576 * oP A p + oV A p)
def a67 : Nat → Nat → Prop := fun a _ => a = 67
section
variable {G : mG} {d : Nat} {b : Nat × Nat} {h : mH} {Q : Option mV → mH → Prop}
theorem m_reckon {o : Nat} {x y : Int32} (hS : mSk h) (h1 : 2 ≤ o) (h2 : o ≤ 9) (h3 : o = 5 ∨ o = 6 → ¬ y = 0) (K : Q (some (.inl (rk o x y))) h) : mC G kX12_reckon d b [.inl (nI o), .inl x, .inl y] h Q := by
  rcases (show o = 2 ∨ o = 3 ∨ o = 4 ∨ o = 5 ∨ o = 6 ∨ o = 7 ∨ o = 8 ∨ o = 9 by omega) with rfl | rfl | rfl | rfl | rfl | rfl | rfl | rfl
  · exact qX12_reckon _ _ _ hS ⟨fun z => absurd z (by decide), fun _ => K, fun z => absurd z (by decide), fun z => absurd z (by decide), fun z => absurd z (by decide), fun z => absurd z (by decide), fun z => absurd z (by decide), fun z => absurd z (by decide)⟩
  · exact qX12_reckon _ _ _ hS ⟨fun z => absurd z (by decide), fun z => absurd z (by decide), fun _ => K, fun z => absurd z (by decide), fun z => absurd z (by decide), fun z => absurd z (by decide), fun z => absurd z (by decide), fun z => absurd z (by decide)⟩
  · exact qX12_reckon _ _ _ hS ⟨fun z => absurd z (by decide), fun z => absurd z (by decide), fun z => absurd z (by decide), fun _ => K, fun z => absurd z (by decide), fun z => absurd z (by decide), fun z => absurd z (by decide), fun z => absurd z (by decide)⟩
  · exact qX12_reckon _ _ _ hS ⟨fun z => absurd z (by decide), fun z => absurd z (by decide), fun z => absurd z (by decide), fun z => absurd z (by decide), fun _ => ⟨h3 (Or.inl rfl), K⟩, fun z => absurd z (by decide), fun z => absurd z (by decide), fun z => absurd z (by decide)⟩
  · exact qX12_reckon _ _ _ hS ⟨fun z => absurd z (by decide), fun z => absurd z (by decide), fun z => absurd z (by decide), fun z => absurd z (by decide), fun z => absurd z (by decide), fun _ => ⟨h3 (Or.inr rfl), K⟩, fun z => absurd z (by decide), fun z => absurd z (by decide)⟩
  · exact qX12_reckon _ _ _ hS ⟨fun z => absurd z (by decide), fun z => absurd z (by decide), fun z => absurd z (by decide), fun z => absurd z (by decide), fun z => absurd z (by decide), fun z => absurd z (by decide), fun _ w e => by rw [e]; exact K, fun z => absurd z (by decide)⟩
  · exact qX12_reckon _ _ _ hS ⟨fun z => absurd z (by decide), fun z => absurd z (by decide), fun z => absurd z (by decide), fun z => absurd z (by decide), fun z => absurd z (by decide), fun z => absurd z (by decide), fun z => absurd z (by decide), fun _ w e => by rw [e]; exact K⟩
  · exact qX12_reckon _ _ _ hS ⟨fun _ w e => by rw [e]; exact K, fun z => absurd z (by decide), fun z => absurd z (by decide), fun z => absurd z (by decide), fun z => absurd z (by decide), fun z => absurd z (by decide), fun z => absurd z (by decide), fun z => absurd z (by decide)⟩
theorem sU_cell {A : Nat → Nat → Prop} {h h1 : mH} {S : Nat → Int32} {a n m : Nat} {v : Int32} (c1 : ∀ j, j < n → mI h1 a j = S j) (hm : m ≤ n) : ∀ j, j < m + 1 → mI (mSI h1 a m v) a j = sU S m v j := by
  intro j hj
  unfold sU
  rw [mI_SI]
  by_cases e : j = m
  · rw [if_pos ⟨rfl, e⟩, if_pos e]
  · rw [if_neg (fun z => e z.2), if_neg e]; exact c1 j (by omega)
set_option maxHeartbeats 2000000 in
theorem m_comesLoop {A : aCd} {F : Nat → Int32} {T : Nat → Nat} {fr to fin : Nat} {h0 : mH} (hS : mSk h0) (hA : cdM h0 A to) (hF : ∀ j, j < 9 → mI h0 68 j = F j) (ok : okC A T fr to fin) (hfin : fin = 1 ∨ fin = 100) : ∀ (r p n : Nat) (S : Nat → Int32) (h1 : mH), to - p ≤ r → fr ≤ p → p ≤ to → n = nT (T p) → mFr2 a67 h0 h1 → (∀ j, j < n → mI h1 67 j = S j) →
    (∀ h', mFr2 a67 h0 h' → Q (some (.inl (evA A F to r p n S))) h') → mW G kX12_comesTo (d + 1) b 16 [some (.inr (some 47)), none, some (.inl (nI to)), some (.inl (nI n)), some (.inl 0), some (.inl (nI p)), none, none] [] h1 Q := by
  have h160 := ok.2.2.2.1
  intro r
  induction r with
  | zero =>
    intro p n S h1 hr hfp hpt hn f1 c1 K
    have hpe : p = to := by omega
    have hS1 := f1.1.sk hS
    have hn1 : n = 1 := by rw [hn, hpe, ok.2.1]; rcases hfin with e | e <;> rw [e] <;> rfl
    refine qX12_comesTo_16 _ _ _ _ hS1 ⟨fun _ => ⟨vp_in_nI (show 0 < 180 by omega) (by omega), ?_⟩, fun z => absurd (nI_le (by omega) (by omega)) z⟩
    rw [c1 0 (by omega)]; exact K h1 f1
  | succ r ih =>
    intro p n S h1 hr hfp hpt hn f1 c1 K
    have hS1 := f1.1.sk hS
    by_cases hpe : p = to
    · have hn1 : n = 1 := by rw [hn, hpe, ok.2.1]; rcases hfin with e | e <;> rw [e] <;> rfl
      rw [evA_0 (by omega)] at K
      refine qX12_comesTo_16 _ _ _ _ hS1 ⟨fun _ => ⟨vp_in_nI (show 0 < 180 by omega) (by omega), ?_⟩, fun z => absurd (nI_le (by omega) (by omega)) z⟩
      rw [c1 0 (by omega)]; exact K h1 f1
    have hlt : p < to := by omega
    have ho := ok.2.2.2.2 p hfp hlt
    obtain ⟨b1, b2⟩ := ho.b h160
    have hc : mI h1 63 p = nI (1048576 * oP A p + oV A p) := by rw [f1.2 63 p (by unfold a67; omega)]; exact hA p hlt
    have hq : mI h1 63 p / 1048576 = nI (oP A p) := by
      rw [hc, show (1048576 : Int32) = nI 1048576 from rfl, ii_div (by omega) (by omega) (by omega), show (1048576 * oP A p + oV A p) / 1048576 = oP A p by omega]
    have hv : m_rem (mI h1 63 p) 1048576 = nI (oV A p) := by
      rw [hc, show (1048576 : Int32) = nI 1048576 from rfl, ii_rem (by omega) (by omega) (by omega), show (1048576 * oP A p + oV A p) % 1048576 = oV A p by omega]
    have vp : vp_in (nI p) 180 := vp_in_nI (by omega) (by omega)
    have npt : ¬ nI to ≤ nI p := nI_ge hlt (by omega)
    have hp1 : nI p + 1 = nI (p + 1) := nI_1 p
    unfold evA at K
    rw [if_neg (show ¬ to ≤ p by omega)] at K
    have hoN : ∀ k, k < 20 → (nI (oP A p) = nI k ↔ oP A p = k) := fun k hk => nI_eq (by omega) (by omega)
    have e0 := hoN 0 (by omega)
    have e1 := hoN 1 (by omega)
    have e5 := hoN 5 (by omega)
    have e6 := hoN 6 (by omega)
    have e10 := hoN 10 (by omega)
    have e11 := hoN 11 (by omega)
    have e12 := hoN 12 (by omega)
    have h68 : ∀ j, j < 9 → mI h1 68 j = F j := fun j hj => by rw [f1.2 68 j (by unfold a67; omega)]; exact hF j hj
    have ar : ∀ m : Nat, n = m + 2 → 2 ≤ oP A p → oP A p ≤ 9 → ((oP A p = 5 ∨ oP A p = 6) → ¬ S (n - 1) = 0) → nT (T (p + 1)) = m + 1 →
        vp_in ((nI n - 1) - 1) 180 ∧ vp_in (nI n - 1) 180 ∧ mC G kX12_reckon d (0, 0) [.inl (nI (oP A p)), .inl (mI h1 67 ((nI n - 1) - 1).toNatClampNeg), .inl (mI h1 67 (nI n - 1).toNatClampNeg)] h1 (fun r h25 => ∃ x26, r = some (.inl x26) ∧ mSk h25 ∧ vp_in ((nI n - 1) - 1) 180 ∧ ∀ h28, h28 = mSI h25 67 ((nI n - 1) - 1).toNatClampNeg x26 → mW G kX12_comesTo (d + 1) b 16 [some (.inr (some 47)), none, some (.inl (nI to)), some (.inl (nI n - 1)), some (.inl 0), some (.inl (nI p + 1)), none, none] [] h28 Q) := by
      intro m hm g1 g2 g3 g4
      have hm20 : m ≤ 20 := by
        unfold okO at ho; unfold nT at hn; split at hn <;> omega
      rw [if_neg (show ¬ oP A p = 0 by omega), if_neg (show ¬ oP A p = 1 by omega), if_neg (show ¬ oP A p = 10 by omega), if_neg (show ¬ oP A p = 11 by omega), if_neg (show ¬ oP A p = 12 by omega), if_neg (fun z => g3 z.1 z.2)] at K
      subst hm
      rw [show m + 2 - 1 = m + 1 by omega, show m + 2 - 2 = m by omega] at K
      rw [show nI (m + 2) - 1 = nI (m + 1) from nI_pred (m + 1), show nI (m + 1) - 1 = nI m from nI_pred m, nI_clamp (by omega), nI_clamp (by omega), c1 m (by omega), c1 (m + 1) (by omega), hp1]
      refine ⟨vp_in_nI (by omega) (by omega), vp_in_nI (by omega) (by omega), m_reckon hS1 g1 g2 g3 ⟨_, rfl, hS1, vp_in_nI (by omega) (by omega), fun h28 e28 => ?_⟩⟩
      subst e28
      exact ih (p + 1) (m + 1) _ _ (by omega) (by omega) (by omega) g4.symm (f1.tr (mFr2.SI rfl)) (sU_cell (h := h0) (A := a67) c1 (by omega)) K
    refine qX12_comesTo_16 _ _ _ _ hS1 ⟨fun z => absurd z npt, fun _ => ?_⟩
    rw [nI_clamp (show p < 2 ^ 31 by omega), hq, hv]
    refine ⟨vp, vp, ?_⟩
    rcases ho with ⟨g1, g2, g3, g4, g5⟩ | ⟨g1, g2, g3, g4, g5, g6⟩ | ⟨g1, g2, g3, g4, g5⟩ | ⟨g1, g2, g3, g4⟩ | ⟨g1, g2, g3, g4, g5, g6⟩
    · have hnT : n = T p := by rw [hn]; unfold nT; rw [if_neg (by omega)]
      have hn' : n + 1 = nT (T (p + 1)) := by rw [g3]; unfold nT; rw [if_neg (by omega)]; omega
      have vn : vp_in (nI n) 180 := vp_in_nI (by omega) (by omega)
      by_cases z0 : oP A p = 0
      · rw [if_pos z0] at K
        refine ⟨fun _ => ⟨fun z => absurd (e0.mpr z0) z, fun _ => ⟨vn, fun h8 e8 => ?_⟩⟩, fun z => absurd (e0.mpr z0) z⟩
        rw [nI_clamp (by omega)] at e8
        subst e8
        rw [nI_1, nI_1]
        exact ih (p + 1) (n + 1) _ _ (by omega) (by omega) (by omega) hn' (f1.tr (mFr2.SI rfl)) (sU_cell (h := h0) (A := a67) c1 (by omega)) K
      · have z1 : oP A p = 1 := by omega
        have gv := g5 z1
        rw [if_neg z0, if_pos z1] at K
        refine ⟨fun z => absurd (e0.mp z) z0, fun _ => ⟨fun z => absurd (e1.mpr z1) z, fun _ => ⟨fun _ => ⟨vp_in_nI gv (by omega), vn, fun h8 e8 => ?_⟩, fun z => absurd (e0.mp z) z0⟩⟩⟩
        rw [nI_clamp (by omega), nI_clamp (by omega), h68 _ gv] at e8
        subst e8
        rw [nI_1, nI_1]
        exact ih (p + 1) (n + 1) _ _ (by omega) (by omega) (by omega) hn' (f1.tr (mFr2.SI rfl)) (sU_cell (h := h0) (A := a67) c1 (by omega)) K
    · have hnT : n = T p := by rw [hn]; unfold nT; rw [if_neg (by omega)]
      obtain ⟨m, hm⟩ : ∃ m, n = m + 2 := ⟨n - 2, by omega⟩
      have hn' : nT (T (p + 1)) = m + 1 := by rw [g5]; unfold nT; rw [if_neg (by omega)]; omega
      have v1 : vp_in (nI n - 1) 180 := by rw [hm, show nI (m + 2) - 1 = nI (m + 1) from nI_pred (m + 1)]; exact vp_in_nI (by omega) (by omega)
      have hs1 : mI h1 67 (nI n - 1).toNatClampNeg = S (n - 1) := by
        rw [hm, show nI (m + 2) - 1 = nI (m + 1) from nI_pred (m + 1), nI_clamp (by omega), c1 (m + 1) (by omega)]; rfl
      have dz : ((oP A p = 5 ∨ oP A p = 6) ∧ S (n - 1) = 0) → Q (some (.inl 0)) h1 := by
        intro z
        rw [if_neg (show ¬ oP A p = 0 by omega), if_neg (show ¬ oP A p = 1 by omega), if_neg (show ¬ oP A p = 10 by omega), if_neg (show ¬ oP A p = 11 by omega), if_neg (show ¬ oP A p = 12 by omega), if_pos z] at K
        exact K h1 f1
      refine ⟨fun z => absurd (e0.mp z) (by omega), fun _ => ⟨fun _ => ⟨fun _ => ⟨fun z => absurd (e11.mp z) (by omega), fun _ => ⟨fun _ => ⟨fun z5 => ⟨v1, fun y => ?_, fun y => ?_⟩, fun z5 => ⟨fun z6 => ?_, fun z6 => ⟨v1, fun y => ?_, fun y => ?_⟩⟩⟩, fun z => absurd (e12.mp z) (by omega)⟩⟩, fun z => absurd (e10.mp z) (by omega)⟩, fun z => absurd (e1.mp z) (by omega)⟩⟩
      · rw [hs1] at y
        exact ar m hm g1 (by omega) (fun _ => y) hn'
      · rw [hs1] at y
        exact dz ⟨Or.inl (e5.mp z5), y⟩
      · exact ar m hm g1 (by omega) (fun z => absurd z (by have a5 : ¬ oP A p = 5 := fun t => z5 (e5.mpr t); have a6 : ¬ oP A p = 6 := fun t => z6 (e6.mpr t); omega)) hn'
      · rw [hs1] at y
        exact ar m hm g1 (by omega) (fun _ => y) hn'
      · rw [hs1] at y
        exact dz ⟨Or.inr (e6.mp z6), y⟩
    · have hnT : n = T p := by rw [hn]; unfold nT; rw [if_neg (by omega)]
      have hn' : nT (T (p + 1)) = 0 + 1 := by rw [g4]; rfl
      refine ⟨fun z => absurd (e0.mp z) (by omega), fun _ => ⟨fun _ => ⟨fun _ => ⟨fun z => absurd (e11.mp z) (by omega), fun _ => ⟨fun _ => ⟨fun z5 => absurd (e5.mp z5) (by omega), fun z5 => ⟨fun z6 => ?_, fun z6 => absurd (e6.mp z6) (by omega)⟩⟩, fun z => absurd (e12.mp z) (by omega)⟩⟩, fun z => absurd (e10.mp z) (by omega)⟩, fun z => absurd (e1.mp z) (by omega)⟩⟩
      exact ar 0 (by omega) (by omega) (by omega) (fun z => absurd z (by omega)) hn'
    · have hnT : n = 1 := by rw [hn, g2]; rfl
      have hn' : 1 = nT (T (p + 1)) := by rw [g3]; rfl
      subst hnT
      rw [if_neg (show ¬ oP A p = 0 by omega), if_neg (show ¬ oP A p = 1 by omega), if_pos g1] at K
      refine ⟨fun z => absurd (e0.mp z) (by omega), fun _ => ⟨fun _ => ⟨fun z => absurd (e10.mpr g1) z, fun _ => ?_⟩, fun z => absurd (e1.mp z) (by omega)⟩⟩
      rw [show nI 1 - 1 = nI 0 from nI_pred 0, nI_clamp (by omega), c1 0 (by omega)]
      refine ⟨vp_in_nI (by omega) (by omega), vp_in_nI (by omega) (by omega), fun h48 e48 => ?_⟩
      subst e48
      rw [nI_1]
      exact ih (p + 1) 1 _ _ (by omega) (by omega) (by omega) hn' (f1.tr (mFr2.SI rfl)) (sU_cell (h := h0) (A := a67) c1 (by omega)) K
    · have hnT : n = 1 := by rw [hn, g2]; rfl
      have hn0 : 0 = nT (T (p + 1)) := by rw [g3]; rfl
      have hn1 : 1 = nT (T (oV A p)) := by rw [g6]; rfl
      subst hnT
      rw [if_neg (show ¬ oP A p = 0 by omega), if_neg (show ¬ oP A p = 1 by omega), if_neg (show ¬ oP A p = 10 by omega)] at K
      have v0 : vp_in (nI 1 - 1) 180 := by rw [show nI 1 - 1 = nI 0 from nI_pred 0]; exact vp_in_nI (by omega) (by omega)
      have hs : mI h1 67 (nI 1 - 1).toNatClampNeg = S 0 := by rw [show nI 1 - 1 = nI 0 from nI_pred 0, nI_clamp (by omega)]; exact c1 0 (by omega)
      have hbv : (0 : Int32) + nI (oV A p) = nI (oV A p) := by rw [show (0 : Int32) = nI 0 from rfl, nI_add, Nat.zero_add]
      have go : (∀ h', mFr2 a67 h0 h' → Q (some (.inl (evA A F to r (p + 1) 0 S))) h') → mW G kX12_comesTo (d + 1) b 16 [some (.inr (some 47)), none, some (.inl (nI to)), some (.inl (nI 1 - 1)), some (.inl 0), some (.inl (nI p + 1)), none, none] [] h1 Q := by
        intro K2
        rw [nI_1, show nI 1 - 1 = nI 0 from nI_pred 0]
        exact ih (p + 1) 0 S h1 (by omega) (by omega) (by omega) hn0 f1 (fun j hj => by omega) K2
      have ju : (∀ h', mFr2 a67 h0 h' → Q (some (.inl (evA A F to r (oV A p) 1 S))) h') → mW G kX12_comesTo (d + 1) b 16 [some (.inr (some 47)), none, some (.inl (nI to)), some (.inl (nI 1)), some (.inl 0), some (.inl (0 + nI (oV A p))), none, none] [] h1 Q := by
        intro K2
        rw [hbv]
        exact ih (oV A p) 1 S h1 (by omega) (by omega) (by omega) hn1 f1 c1 K2
      rw [show (1 : Nat) - 1 = 0 from rfl] at K
      refine ⟨fun z => absurd (e0.mp z) (by omega), fun _ => ⟨fun _ => ⟨fun _ => ⟨fun z => ⟨v0, fun w ew => ⟨fun y => ?_, fun y => ?_⟩⟩, fun z => ⟨fun z2 => absurd (by rcases g1 with t | t; exact absurd (e11.mpr t) z; exact e12.mpr t) z2, fun z2 => ⟨v0, fun w ew => ⟨fun y => ?_, fun y => ?_⟩⟩⟩⟩, fun z => absurd (e10.mp z) (by omega)⟩, fun z => absurd (e1.mp z) (by omega)⟩⟩
      · have q11 := e11.mp z
        rw [hs, ew, if_pos (fun t => by have := e12.mp t; omega)] at y
        rw [if_pos q11, if_neg y] at K
        exact go K
      · have q11 := e11.mp z
        rw [hs, ew, if_pos (fun t => by have := e12.mp t; omega)] at y
        rw [if_pos q11, if_pos y] at K
        exact ju K
      · have q12 := e12.mp z2
        rw [hs, ew, if_neg (fun t => t z2)] at y
        rw [if_neg (show ¬ oP A p = 11 by omega), if_pos q12, if_neg y] at K
        exact go K
      · have q12 := e12.mp z2
        rw [hs, ew, if_neg (fun t => t z2)] at y
        rw [if_neg (show ¬ oP A p = 11 by omega), if_pos q12, if_pos y] at K
        exact ju K
def ev0 (A : aCd) (F : Nat → Int32) (fr to : Nat) : Int32 := evA A F to (to - fr) fr 0 (fun _ => 0)
theorem m_comesTo {A : aCd} {F : Nat → Int32} {T : Nat → Nat} {fr to fin : Nat} (hS : mSk h) (hA : cdM h A to) (hF : ∀ j, j < 9 → mI h 68 j = F j) (ok : okC A T fr to fin) (hfin : fin = 1 ∨ fin = 100)
    (K : ∀ h', mFr2 a67 h h' → Q (some (.inl (ev0 A F fr to))) h') : mC G kX12_comesTo (d + 1) b [.inr (some 47), .inl (nI fr), .inl (nI to)] h Q := by
  have h160 := ok.2.2.2.1
  have hle := ok.2.2.1
  have e : (180 : Int32) * (nI fr / 180) = 0 := by
    rw [show (180 : Int32) = nI 180 from rfl, ii_div (by omega) (by omega) (by omega), show fr / 180 = 0 by omega]; rfl
  refine qX12_comesTo _ _ hS ?_
  rw [e]
  refine m_comesLoop hS hA hF ok hfin (to - fr) fr 0 (fun _ => 0) h (by omega) (by omega) hle ?_ mFr2.rf (fun j hj => by omega) K
  rw [ok.1]; rfl
end
