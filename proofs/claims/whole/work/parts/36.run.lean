/-! the class runs the same orders -/
def cO (o : Nat) : Nat := if o = 11 then 12 else if o = 12 then 11 else o
def cdX (h : mH) (l : Nat) (A : aCd) (to : Nat) : Prop := ∀ p, p < to → mI h (l + 1) p = nI (16 * oV A p + cO (oP A p))
def aRun (l : Nat) : Nat → Nat → Prop := fun a k => (a = l ∧ (k = 6 ∨ k = 7)) ∨ a = l + 4
def tT (t : Nat) : Nat := if t = 100 then 0 else t
theorem f_rk {o : Nat} {x y : Int32} (h1 : 2 ≤ o) (h2 : o ≤ 6) (h3 : o = 5 ∨ o = 6 → ¬ y = 0) : f_X3_reckon (nI o) x y = rk o x y := by
  rcases (show o = 2 ∨ o = 3 ∨ o = 4 ∨ o = 5 ∨ o = 6 by omega) with rfl | rfl | rfl | rfl | rfl
  · rfl
  · rfl
  · rfl
  · unfold f_X3_reckon rk
    rw [if_neg (by decide), if_neg (by decide), if_neg (by decide), if_pos (by decide), if_pos (h3 (Or.inl rfl))]
    rfl
  · unfold f_X3_reckon rk
    rw [if_neg (by decide), if_neg (by decide), if_neg (by decide), if_neg (by decide), if_pos (h3 (Or.inr rfl))]
    rfl
theorem rk_cmp {o : Nat} {x y : Int32} (h1 : 7 ≤ o) (h2 : o ≤ 9) : (if ¬ nI o = 7 then (if ¬ nI o = 8 then (if ¬ x = y then (0 : Int32) else 1) else (if x ≤ y then 0 else 1)) else (if y ≤ x then 0 else 1)) = rk o x y := by
  have e7 : nI o = 7 ↔ o = 7 := nI_eq (b := 7) (by omega) (by omega)
  have e8 : nI o = 8 ↔ o = 8 := nI_eq (b := 8) (by omega) (by omega)
  unfold rk
  rw [if_neg (show ¬ o = 2 by omega), if_neg (show ¬ o = 3 by omega), if_neg (show ¬ o = 4 by omega), if_neg (show ¬ o = 5 by omega), if_neg (show ¬ o = 6 by omega)]
  by_cases a7 : o = 7
  · rw [if_neg (fun z => z (e7.mpr a7)), if_pos a7]
  · rw [if_pos (fun z => a7 (e7.mp z)), if_neg a7]
    by_cases a8 : o = 8
    · rw [if_neg (fun z => z (e8.mpr a8)), if_pos a8]
    · rw [if_pos (fun z => a8 (e8.mp z)), if_neg a8]
theorem rk_01 {o : Nat} {x y : Int32} (h1 : 7 ≤ o) : rk o x y = 0 ∨ rk o x y = 1 := by
  unfold rk
  rw [if_neg (by omega), if_neg (by omega), if_neg (by omega), if_neg (by omega), if_neg (by omega)]
  split
  · split <;> first | exact Or.inl rfl | exact Or.inr rfl
  · split
    · split <;> first | exact Or.inl rfl | exact Or.inr rfl
    · split <;> first | exact Or.inl rfl | exact Or.inr rfl
theorem pk_m2 (m : Nat) : nI (m + 2) - 2 = nI m := by
  rw [show (2 : Int32) = nI 2 from rfl, pk_sub (by omega), show m + 2 - 2 = m by omega]
theorem pk_a2 (m : Nat) : nI (m + 2) + (-2) = nI m := by
  rw [ii_nat, ii_nat, show (-2 : Int32) = iI (-2) from rfl, ii_add]; congr 1; omega
/-- what a run tells -/
def rnR (h' : mH) (l fin : Nat) (x e : Int32) : Prop := (fin = 1 → x = e) ∧ (fin = 100 → ((mI h' l 7 ≠ 0 ∧ mI h' l 6 = 0) ↔ e = 1))
section
variable {G : mG} {d : Nat} {b : Nat × Nat} {h : mH} {Q : Option mV → mH → Prop}
set_option maxHeartbeats 4000000 in
theorem c3_runLoop {A : aCd} {F : Nat → Int32} {T : Nat → Nat} {l fr to fin : Nat} {h0 : mH} (hl : l = 16 ∨ l = 21) (hS : mSk h0) (hA : cdX h0 l A to) (hF : ∀ j, j < 9 → mI h0 26 j = F j) (ok : okC A T fr to fin) (hfin : fin = 1 ∨ fin = 100) : ∀ (r p n : Nat) (S : Nat → Int32) (h1 : mH), to - p ≤ r → fr ≤ p → p ≤ to → n = nT (T p) → mFr2 (aRun l) h0 h1 → mI h1 l 6 = 0 → (T p ≠ 100 → ∀ j, j < n → mI h1 (l + 4) j = S j) → (T p = 100 → mI h1 l 7 = S 0 ∧ (S 0 = 0 ∨ S 0 = 1)) →
    (∀ h' x, mFr2 (aRun l) h0 h' → rnR h' l fin x (evA A F to r p n S) → Q (some (.inl x)) h') → mW G kX3_run (d + 1) b 16 [some (.inr (some l)), none, some (.inl (nI to)), some (.inr (some 26)), some (.inl (nI (tT (T p)))), some (.inl (nI p)), none, none, none, none] [] h1 Q := by
  have h160 := ok.2.2.2.1
  have tl : mT h0 l = 4 := by rcases hl with rfl | rfl; exact skT_16 hS; exact skT_21 hS
  intro r
  have fin0 : ∀ (p n : Nat) (S : Nat → Int32) (h1 : mH) (e : Int32), e = S 0 → p = to → n = nT (T p) → mFr2 (aRun l) h0 h1 → mI h1 l 6 = 0 → (T p ≠ 100 → ∀ j, j < n → mI h1 (l + 4) j = S j) → (T p = 100 → mI h1 l 7 = S 0 ∧ (S 0 = 0 ∨ S 0 = 1)) → (∀ h' x, mFr2 (aRun l) h0 h' → rnR h' l fin x e → Q (some (.inl x)) h') → mW G kX3_run (d + 1) b 16 [some (.inr (some l)), none, some (.inl (nI to)), some (.inr (some 26)), some (.inl (nI (tT (T p)))), some (.inl (nI p)), none, none, none, none] [] h1 Q := by
    intro p n S h1 e he hpe hn f1 r1 c1 t1 K
    have hS1 := f1.1.sk hS
    have ta1 : mT h1 l = 4 := by rw [f1.1.2.1]; exact tl
    subst hpe
    refine qX3_run_16 l _ 26 _ _ ta1 (skT_26 hS1) hS1 ⟨fun _ => ?_, fun z => absurd (nI_le (by omega) (by omega)) z⟩
    rcases hfin with hf | hf
    · rw [ok.2.1, hf] at hn c1
      rw [ok.2.1, hf]
      refine ⟨fun z => absurd z (by decide), fun _ => ?_⟩
      rw [show nI (tT 1) - 1 = nI 0 from nI_pred 0, nI_clamp (by omega)]
      refine ⟨vp_in_nI (by omega) (by omega), K h1 _ f1 ⟨fun _ => ?_, fun z => by omega⟩⟩
      rw [he]
      exact c1 (by decide) 0 (by rw [hn]; decide)
    · rw [ok.2.1, hf] at t1
      rw [ok.2.1, hf]
      obtain ⟨t2, t3⟩ := t1 rfl
      refine ⟨fun _ => K h1 _ f1 ⟨fun z => by omega, fun _ => ?_⟩, fun z => absurd (by decide) z⟩
      rw [t2, he, r1]
      rcases t3 with t3 | t3 <;> rw [t3] <;> decide
  induction r with
  | zero =>
    intro p n S h1 hr hfp hpt hn f1 r1 c1 t1 K
    exact fin0 p n S h1 _ rfl (by omega) hn f1 r1 c1 t1 K
  | succ r ih =>
    intro p n S h1 hr hfp hpt hn f1 r1 c1 t1 K
    have hS1 := f1.1.sk hS
    have ta1 : mT h1 l = 4 := by rw [f1.1.2.1]; exact tl
    by_cases hpe : p = to
    · exact fin0 p n S h1 _ (evA_0 (by omega)) hpe hn f1 r1 c1 t1 K
    have hlt : p < to := by omega
    have ho := ok.2.2.2.2 p hfp hlt
    obtain ⟨b1, b2⟩ := ho.b h160
    have hco : cO (oP A p) ≤ 12 := by unfold cO; split <;> first | omega | (split <;> omega)
    have hc : mI h1 (l + 1) p = nI (16 * oV A p + cO (oP A p)) := by rw [f1.2 _ p (by unfold aRun; omega)]; exact hA p hlt
    have hq : (mI h1 (l + 1) p &&& 15) = nI (cO (oP A p)) := by
      rw [hc, pk_andN (by omega) 4 (by decide), show (16 * oV A p + cO (oP A p)) % 2 ^ 4 = cO (oP A p) by omega]
    have hv : m_shr (mI h1 (l + 1) p) 4 = nI (oV A p) := by
      rw [hc]; unfold m_shr
      rw [pk_shrN (by omega) _ 4 (by decide), show (16 * oV A p + cO (oP A p)) / 2 ^ 4 = oV A p by omega]
    have vp : vp_in (nI p) 160 := vp_in_nI (by omega) (by omega)
    have npt : ¬ nI to ≤ nI p := nI_ge hlt (by omega)
    unfold evA at K
    rw [if_neg (show ¬ to ≤ p by omega)] at K
    have hoN : ∀ k, k < 20 → (nI (cO (oP A p)) = nI k ↔ cO (oP A p) = k) := fun k hk => nI_eq (by omega) (by omega)
    have hoL : ∀ k, k < 30 → (nI (cO (oP A p)) < nI k ↔ cO (oP A p) < k) := fun k hk => nI_ltI (by omega) (by omega)
    have e1 : (1 : Int32) < nI (cO (oP A p)) ↔ 1 < cO (oP A p) := nI_ltI (a := 1) (by omega) (by omega)
    have e0 := hoN 0 (by omega)
    have e5 := hoN 5 (by omega)
    have e6 := hoN 6 (by omega)
    have e10 := hoN 10 (by omega)
    have e11 := hoN 11 (by omega)
    have l7 := hoL 7 (by omega)
    have l10 := hoL 10 (by omega)
    have h26 : ∀ j, j < 9 → mI h1 26 j = F j := fun j hj => by rw [f1.2 26 j (by unfold aRun; omega)]; exact hF j hj
    refine qX3_run_16 l _ 26 _ _ ta1 (skT_26 hS1) hS1 ⟨fun z => absurd z npt, fun _ => ?_⟩
    rw [nI_clamp (show p < 2 ^ 31 by omega), hq, hv, skL_26 hS1]
    refine ⟨vp, vp, ?_⟩
    rcases ho with ⟨g1, g2, g3, g4, g5⟩ | ⟨g1, g2, g3, g4, g5, g6⟩ | ⟨g1, g2, g3, g4, g5⟩ | ⟨g1, g2, g3, g4⟩ | ⟨g1, g2, g3, g4, g5, g6⟩
    · have hc1 : cO (oP A p) = oP A p := by unfold cO; rw [if_neg (by omega), if_neg (by omega)]
      rw [hc1] at e0 e1
      have hT : tT (T p) = T p := by unfold tT; rw [if_neg (by omega)]
      have hnT : n = T p := by rw [hn]; unfold nT; rw [if_neg (by omega)]
      have hn' : n + 1 = nT (T (p + 1)) := by rw [g3]; unfold nT; rw [if_neg (by omega)]; omega
      have hT' : T p + 1 = tT (T (p + 1)) := by rw [g3]; unfold tT; rw [if_neg (by omega)]
      have vn : vp_in (nI (T p)) 20 := vp_in_nI (by omega) (by omega)
      have hlt2 : ¬ (20 : Int32) ≤ nI (T p) := nI_ge (a := T p) (b := 20) (by omega) (by omega)
      rw [hT, hc1]
      have c2 := c1 (by omega)
      refine ⟨fun z => absurd (e1.mp z) (by omega), fun _ => ⟨fun z => absurd z hlt2, fun _ => ⟨fun z => ⟨?_, vn, fun h8 e8 => ?_⟩, fun z => ⟨vn, fun h8 e8 => ?_⟩⟩⟩⟩
      · exact vp_in_nI (g5 (by have : ¬ oP A p = 0 := fun t => z (e0.mpr t); omega)) (by omega)
      · have z1 : oP A p = 1 := by have : ¬ oP A p = 0 := fun t => z (e0.mpr t); omega
        have gv := g5 z1
        rw [nI_clamp (by omega), nI_clamp (by omega), h26 _ gv] at e8
        subst e8
        rw [if_neg (show ¬ oP A p = 0 by omega), if_pos z1] at K
        rw [nI_1, nI_1, hT']
        refine ih (p + 1) (n + 1) _ _ (by omega) (by omega) (by omega) hn' (f1.tr (mFr2.SI (Or.inr rfl))) ?_ ?_ (fun z => by omega) K
        · rw [mI_SI_a (by omega)]; exact r1
        · intro _; rw [← hnT]; exact sU_cell (h := h0) (A := a67) c2 (by omega)
      · have z0 : oP A p = 0 := e0.mp z
        rw [nI_clamp (by omega)] at e8
        subst e8
        rw [if_pos z0] at K
        rw [nI_1, nI_1, hT']
        refine ih (p + 1) (n + 1) _ _ (by omega) (by omega) (by omega) hn' (f1.tr (mFr2.SI (Or.inr rfl))) ?_ ?_ (fun z => by omega) K
        · rw [mI_SI_a (by omega)]; exact r1
        · intro _; rw [← hnT]; exact sU_cell (h := h0) (A := a67) c2 (by omega)
    · have hc1 : cO (oP A p) = oP A p := by unfold cO; rw [if_neg (by omega), if_neg (by omega)]
      rw [hc1] at e1 e5 e6 l7 l10
      have hT : tT (T p) = T p := by unfold tT; rw [if_neg (by omega)]
      have hnT : n = T p := by rw [hn]; unfold nT; rw [if_neg (by omega)]
      obtain ⟨m, hm⟩ : ∃ m, n = m + 2 := ⟨n - 2, by omega⟩
      have hn' : m + 1 = nT (T (p + 1)) := by rw [g5]; unfold nT; rw [if_neg (by omega)]; omega
      have hT' : m + 1 = tT (T (p + 1)) := by rw [g5]; unfold tT; rw [if_neg (by omega)]; omega
      have c2 := c1 (by omega)
      rw [hT, hc1, ← hnT, hm, show nI (m + 2) - 1 = nI (m + 1) from nI_pred (m + 1), pk_m2, nI_clamp (by omega), nI_clamp (by omega), c2 m (by omega), c2 (m + 1) (by omega), show nI (m + 2) + (-1) = nI (m + 1) from pk_m1 (m + 1), nI_1]
      have v1 : vp_in (nI (m + 1)) 20 := vp_in_nI (by omega) (by omega)
      have v2 : vp_in (nI m) 20 := vp_in_nI (by omega) (by omega)
      have nlt : ¬ nI (m + 2) < 2 := nI_nlt (a := m + 2) (b := 2) (by omega) (by omega)
      rw [if_neg (show ¬ oP A p = 0 by omega), if_neg (show ¬ oP A p = 1 by omega), if_neg (show ¬ oP A p = 10 by omega), if_neg (show ¬ oP A p = 11 by omega), if_neg (show ¬ oP A p = 12 by omega)] at K
      subst hm
      rw [show m + 2 - 1 = m + 1 by omega, show m + 2 - 2 = m by omega] at K
      have ar : ((oP A p = 5 ∨ oP A p = 6) → ¬ S (m + 1) = 0) → ∀ h8, h8 = mSI h1 (l + 4) m (f_X3_reckon (nI (oP A p)) (S m) (S (m + 1))) → mW G kX3_run (d + 1) b 16 [some (.inr (some l)), none, some (.inl (nI to)), some (.inr (some 26)), some (.inl (nI (m + 1))), some (.inl (nI (p + 1))), none, none, none, none] [] h8 Q := by
        intro hz h8 e8
        rw [if_neg (fun z => hz z.1 z.2)] at K
        rw [f_rk g1 g2 hz] at e8
        rw [hT']
        subst e8
        refine ih (p + 1) (m + 1) _ _ (by omega) (by omega) (by omega) hn' (f1.tr (mFr2.SI (Or.inr rfl))) ?_ ?_ (fun z => by omega) K
        · rw [mI_SI_a (by omega)]; exact r1
        · intro _; exact sU_cell (h := h0) (A := a67) (n := m + 2) (m := m) c2 (by omega)
      have dz : ((oP A p = 5 ∨ oP A p = 6) ∧ S (m + 1) = 0) → ∀ h18, h18 = mSI h1 l 6 1 → Q (some (.inl 0)) h18 := by
        intro z h18 e18
        rw [if_pos z] at K
        subst e18
        refine K _ 0 (f1.tr (mFr2.SI (Or.inl ⟨rfl, Or.inl rfl⟩))) ⟨fun _ => rfl, fun _ => ⟨fun y => absurd y.2 ?_, fun y => absurd y (by decide)⟩⟩
        rw [mI_SI_s]; decide
      have n7 : nI (oP A p) < 7 := l7.mpr (by omega)
      refine ⟨fun _ => ⟨fun _ => ⟨fun z => absurd z nlt, fun _ => ⟨v1, v2, fun y => ⟨fun _ => ⟨v2, ar (fun _ => y)⟩, fun z => absurd n7 z⟩, fun y => ⟨fun z => dz ⟨Or.inl (e5.mp z), y⟩, fun z5 => ⟨fun z6 => ⟨fun _ => ⟨v2, ar (fun t => absurd t ?_)⟩, fun z => absurd n7 z⟩, fun z => dz ⟨Or.inr (e6.mp z), y⟩⟩⟩⟩⟩, fun z => absurd (l10.mpr (by omega)) z⟩, fun z => absurd (e1.mpr (by omega)) z⟩
      have a5 : ¬ oP A p = 5 := fun t => z5 (e5.mpr t)
      have a6 : ¬ oP A p = 6 := fun t => z6 (e6.mpr t)
      omega
    · have hc1 : cO (oP A p) = oP A p := by unfold cO; rw [if_neg (by omega), if_neg (by omega)]
      rw [hc1] at e1 e5 e6 l7 l10
      have hT : tT (T p) = 2 := by rw [g3]; rfl
      have hnT : n = 2 := by rw [hn, g3]; rfl
      have hn' : 1 = nT (T (p + 1)) := by rw [g4]; rfl
      have hT' : 0 = tT (T (p + 1)) := by rw [g4]; rfl
      have c2 := c1 (by omega)
      rw [hT, hc1, show nI 2 - 1 = nI 1 from nI_pred 1, show nI 2 - 2 = nI 0 from pk_m2 0, nI_clamp (by omega), nI_clamp (by omega), c2 0 (by omega), c2 1 (by omega), show nI 2 + (-2) = nI 0 from pk_a2 0, nI_1, rk_cmp g1 g2]
      have v1 : vp_in (nI 1) 20 := vp_in_nI (by omega) (by omega)
      have v2 : vp_in (nI 0) 20 := vp_in_nI (by omega) (by omega)
      rw [if_neg (show ¬ oP A p = 0 by omega), if_neg (show ¬ oP A p = 1 by omega), if_neg (show ¬ oP A p = 10 by omega), if_neg (show ¬ oP A p = 11 by omega), if_neg (show ¬ oP A p = 12 by omega), if_neg (fun z => by have := z.1; omega)] at K
      subst hnT
      rw [show 2 - 1 = 1 from rfl, show 2 - 2 = 0 from rfl] at K
      have cm : ∀ w9 : Int32, w9 = rk (oP A p) (S 0) (S 1) → ∀ h10, h10 = mSI h1 l 7 w9 → mW G kX3_run (d + 1) b 16 [some (.inr (some l)), none, some (.inl (nI to)), some (.inr (some 26)), some (.inl (nI 0)), some (.inl (nI (p + 1))), none, none, none, none] [] h10 Q := by
        intro w9 e9 h10 e10
        subst e10
        rw [hT']
        refine ih (p + 1) 1 _ _ (by omega) (by omega) (by omega) hn' (f1.tr (mFr2.SI (Or.inl ⟨rfl, Or.inr rfl⟩))) ?_ (fun z => absurd g4 z) (fun _ => ⟨?_, ?_⟩) K
        · rw [mI_SI_k (by omega)]; exact r1
        · rw [mI_SI_s, e9]; rfl
        · exact rk_01 g1
      have n7 : ¬ nI (oP A p) < 7 := fun z => by have := l7.mp z; omega
      refine ⟨fun _ => ⟨fun _ => ⟨fun z => absurd z (by decide), fun _ => ⟨v1, v2, fun y => ⟨fun z => absurd z n7, fun _ => cm⟩, fun y => ⟨fun z => absurd (e5.mp z) (by omega), fun z5 => ⟨fun z6 => ⟨fun z => absurd z n7, fun _ => cm⟩, fun z => absurd (e6.mp z) (by omega)⟩⟩⟩⟩, fun z => absurd (l10.mpr (by omega)) z⟩, fun z => absurd (e1.mpr (by omega)) z⟩
    · have hc1 : cO (oP A p) = 10 := by rw [g1]; rfl
      rw [hc1] at e1 e10 l10
      have hT : tT (T p) = 0 := by rw [g2]; rfl
      have hnT : n = 1 := by rw [hn, g2]; rfl
      have hn' : 1 = nT (T (p + 1)) := by rw [g3]; rfl
      have hT' : 0 = tT (T (p + 1)) := by rw [g3]; rfl
      obtain ⟨t2, t3⟩ := t1 g2
      rw [hT, hc1, t2, nI_1]
      rw [if_neg (show ¬ oP A p = 0 by omega), if_neg (show ¬ oP A p = 1 by omega), if_pos g1] at K
      subst hnT
      refine ⟨fun _ => ⟨fun z => absurd (l10.mp z) (by omega), fun _ => ⟨fun z => absurd rfl z, fun _ w39 e39 h40 e40 => ?_⟩⟩, fun z => absurd (e1.mpr (by omega)) z⟩
      subst e40
      rw [hT']
      have hw : w39 = 1 - S 0 := by
        rw [e39]
        rcases t3 with t | t <;> rw [t] <;> decide
      refine ih (p + 1) 1 _ _ (by omega) (by omega) (by omega) hn' (f1.tr (mFr2.SI (Or.inl ⟨rfl, Or.inr rfl⟩))) ?_ (fun z => absurd g3 z) (fun _ => ⟨?_, ?_⟩) K
      · rw [mI_SI_k (by omega)]; exact r1
      · rw [mI_SI_s, hw]; rfl
      · show (1 - S 0 = 0 ∨ 1 - S 0 = 1)
        rcases t3 with t | t <;> rw [t] <;> decide
    · have hT : tT (T p) = 0 := by rw [g2]; rfl
      have hnT : n = 1 := by rw [hn, g2]; rfl
      have hn0 : 0 = nT (T (p + 1)) := by rw [g3]; rfl
      have hT0 : 0 = tT (T (p + 1)) := by rw [g3]; rfl
      have hn1 : 1 = nT (T (oV A p)) := by rw [g6]; rfl
      have hT1 : 0 = tT (T (oV A p)) := by rw [g6]; rfl
      obtain ⟨t2, t3⟩ := t1 g2
      rw [if_neg (show ¬ oP A p = 0 by omega), if_neg (show ¬ oP A p = 1 by omega), if_neg (show ¬ oP A p = 10 by omega)] at K
      subst hnT
      rw [show (1 : Nat) - 1 = 0 from rfl] at K
      have hju : f_max (nI p) (nI (oV A p) - 1) + 1 = nI (oV A p) := by
        obtain ⟨m, hm⟩ : ∃ m, oV A p = m + 1 := ⟨oV A p - 1, by omega⟩
        rw [hm, show nI (m + 1) - 1 = nI m from nI_pred m, fmax_n (by omega) (by omega), show max p m = m by omega, nI_1]
      have go : (∀ h' x, mFr2 (aRun l) h0 h' → rnR h' l fin x (evA A F to r (p + 1) 0 S) → Q (some (.inl x)) h') → mW G kX3_run (d + 1) b 16 [some (.inr (some l)), none, some (.inl (nI to)), some (.inr (some 26)), some (.inl (nI 0)), some (.inl (nI (p + 1))), none, none, none, none] [] h1 Q := by
        intro K2
        rw [hT0]
        exact ih (p + 1) 0 S h1 (by omega) (by omega) (by omega) hn0 f1 r1 (fun _ j hj => by omega) (fun z => by omega) K2
      have ju : (∀ h' x, mFr2 (aRun l) h0 h' → rnR h' l fin x (evA A F to r (oV A p) 1 S) → Q (some (.inl x)) h') → mW G kX3_run (d + 1) b 16 [some (.inr (some l)), none, some (.inl (nI to)), some (.inr (some 26)), some (.inl (nI 0)), some (.inl (nI (oV A p))), none, none, none, none] [] h1 Q := by
        intro K2
        rw [hT1]
        exact ih (oV A p) 1 S h1 (by omega) (by omega) (by omega) hn1 f1 r1 (fun z => absurd g6 z) (fun _ => ⟨t2, t3⟩) K2
      rw [hT, t2, hju, nI_1]
      rcases g1 with g1 | g1
      · have hc1 : cO (oP A p) = 12 := by rw [g1]; rfl
        rw [hc1] at e1 l10 ⊢
        rw [if_pos g1] at K
        refine ⟨fun _ => ⟨fun z => absurd (l10.mp z) (by omega), fun _ => ⟨fun _ w ew => ⟨fun y => ?_, fun y => ?_⟩, fun z => absurd z (by decide)⟩⟩, fun z => absurd (e1.mpr (by omega)) z⟩
        · rw [ew, if_pos (by decide)] at y
          rw [if_neg y] at K; exact go K
        · rw [ew, if_pos (by decide)] at y
          rw [if_pos y] at K; exact ju K
      · have hc1 : cO (oP A p) = 11 := by rw [g1]; rfl
        rw [hc1] at e1 l10 ⊢
        rw [if_neg (show ¬ oP A p = 11 by omega), if_pos g1] at K
        refine ⟨fun _ => ⟨fun z => absurd (l10.mp z) (by omega), fun _ => ⟨fun _ w ew => ⟨fun y => ?_, fun y => ?_⟩, fun z => absurd z (by decide)⟩⟩, fun z => absurd (e1.mpr (by omega)) z⟩
        · rw [ew, if_neg (by decide)] at y
          rw [if_neg y] at K; exact go K
        · rw [ew, if_neg (by decide)] at y
          rw [if_pos y] at K; exact ju K
theorem c3_run {A : aCd} {F : Nat → Int32} {T : Nat → Nat} {l fr to fin : Nat} (hl : l = 16 ∨ l = 21) (hS : mSk h) (hA : cdX h l A to) (hF : ∀ j, j < 9 → mI h 26 j = F j) (ok : okC A T fr to fin) (hfin : fin = 1 ∨ fin = 100)
    (K : ∀ h' x, mFr2 (aRun l) h h' → rnR h' l fin x (ev0 A F fr to) → Q (some (.inl x)) h') : mC G kX3_run (d + 1) b [.inr (some l), .inl (nI fr), .inl (nI to), .inr (some 26)] h Q := by
  have tl : mT h l = 4 := by rcases hl with rfl | rfl; exact skT_16 hS; exact skT_21 hS
  have hle := ok.2.2.1
  refine qX3_run l _ _ 26 tl (skT_26 hS) hS (fun h1 e1 h2 e2 => ?_)
  have f1 : mFr2 (aRun l) h h2 := by
    rw [e2, e1]
    exact (mFr2.SI (Or.inl ⟨rfl, Or.inl rfl⟩)).tr (mFr2.SI (Or.inl ⟨rfl, Or.inr rfl⟩))
  have r1 : mI h2 l 6 = 0 := by rw [e2, mI_SI_k (by omega), e1, mI_SI_s]
  have g := c3_runLoop (G := G) (d := d) (b := b) (Q := Q) hl hS hA hF ok hfin (to - fr) fr 0 (fun _ => 0) h2 (by omega) (by omega) hle (by rw [ok.1]; rfl) f1 r1 (fun _ j hj => by omega) (fun z => by rw [ok.1] at z; omega) K
  rw [ok.1] at g
  exact g
end
