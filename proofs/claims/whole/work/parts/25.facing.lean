/-! FACING, both sides -/
theorem vw_dec : ∀ m, m < 128 → m_shr (nI m) 2 = nI (m / 4) ∧ (nI m &&& 3) = nI (m % 4) ∧ f_X11_echoSteps (nI m) = nI (if m % 4 = 1 then 0 else m / 4) := by decide +kernel
def cVw (h : mH) (a : Nat) (C : aCo) (q : Nat) : Prop := ∀ x y, x < 32 → y < 32 → mI h (a + 3) (vwI q x y) = vwC C q x y
def cSw (h : mH) (a : Nat) (C : aCo) : Prop := ∀ q, q < 4 → mI h (a + 4) q ≠ 0 → cVw h a C q
def aSweep (a q : Nat) : Nat → Nat → Prop := fun r k => (r = a + 3 ∧ q * 1024 ≤ k ∧ k < q * 1024 + 1024) ∨ (r = a + 4 ∧ k = q)
section
variable {G : mG} {d : Nat} {b : Nat × Nat} {h : mH} {Q : Option mV → mH → Prop}
set_option maxHeartbeats 1000000 in
theorem c1_sweep {a q : Nat} {C : aCo} (hS : mSk h) (ta : mT h a = 2) (hC : mCoX h a C) (ok : okRing C) (hL : cLa h a C) (hw : cSw h a C) (hq : q < 4)
    (K : ∀ h', mFr2 (aSweep a q) h h' → cVw h' a C q → cSw h' a C → Q none h') : mC G kX1_sweep (d + 2) b [.inr (some a), .inl (nI q)] h Q := by
  have vq : vp_in (nI q) 4 := vp_in_nI hq (by omega)
  refine qX1_sweep a _ ta hS ⟨vq, fun z => ⟨vq, ?_⟩, fun z => ?_⟩
  · rw [nI_clamp (by omega)] at z ⊢
    rintro h0 rfl
    refine mloop (W := fun i h1 => mW G kX1_sweep (d + 2) b 19 [some (.inr (some a)), some (.inl (nI q)), some (.inl (nI i))] [] h1 Q)
      (P := fun i h1 => mFr2 (aSweep a q) h h1 ∧ mI h1 (a + 4) q = 1 ∧ ∀ l j, l < i → j < 32 → mI h1 (a + 3) (vwI q (lnX q l j) (lnY q l j)) = vwC C q (lnX q l j) (lnY q l j)) 32 ?_ ?_ 0 _ (by omega) ⟨mFr2.SI (Or.inr ⟨rfl, rfl⟩), by rw [mI_SI, if_pos ⟨rfl, rfl⟩], fun l j hl => by omega⟩
    · rintro i h1 hi ⟨f1, s1, c1⟩ ih
      have hS1 := f1.1.sk hS
      have ta1 : mT h1 a = 2 := by rw [f1.1.2.1]; exact ta
      have hL1 : cLa h1 a C := f1.cla (fun k z => by unfold aSweep at z; omega) (fun k z => by unfold aSweep at z; omega) hL
      have hC1 : mCoX h1 a C := f1.cox (fun z => by unfold aSweep at z; omega) (fun k z => by unfold aSweep at z; omega) (fun k z => by unfold aSweep at z; omega) (fun k z => by unfold aSweep at z; omega) hC
      refine qX1_sweep_19 a _ _ ta1 hS1 ⟨fun z => ?_, fun _ => ?_⟩
      · rw [L32, nI_leI (by omega) (by omega)] at z; omega
      · refine c1_sweepLane hS1 ta1 hC1 ok hL1 hq hi (fun h2 f2 c2 => ⟨rfl, f2.1.sk hS1, by rw [f2.1.2.1]; exact ta1, ?_⟩)
        rw [nI_1]
        refine ih h2 ⟨f1.tr (f2.wk ?_), ?_, ?_⟩
        · rintro r k ⟨rfl, j, hj, rfl⟩
          obtain ⟨o1, o2, -⟩ := ln_ok hq hi hj
          refine Or.inl ⟨rfl, ?_⟩
          unfold vwI; omega
        · rw [f2.2 _ _ (fun z => by have := z.1; omega)]; exact s1
        · intro l j hl hj
          by_cases hli : l = i
          · rw [hli]; exact c2 j hj
          · rw [f2.2 _ _ ?_]
            · exact c1 l j (by omega) hj
            · rintro ⟨-, j', hj', e⟩
              exact hli (ln_inj hq (by omega) hj hi hj' e).1
    · rintro h1 ⟨f1, s1, c1⟩
      have ta1 : mT h1 a = 2 := by rw [f1.1.2.1]; exact ta
      have hv : cVw h1 a C q := fun x y hx hy => by
        obtain ⟨l, k, hl, hk, e1, e2, -⟩ := ln_ex hq hx hy
        rw [← e1, ← e2]; exact c1 l k hl hk
      refine qX1_sweep_19 a _ _ ta1 (f1.1.sk hS) ⟨fun _ => K h1 f1 hv ?_, fun z => absurd (by decide) z⟩
      intro q' hq' n0
      by_cases hqq : q' = q
      · rw [hqq]; exact hv
      · rw [f1.2 _ _ (fun z => by unfold aSweep at z; omega)] at n0
        intro x y hx hy
        rw [f1.2 _ _ (fun z => by unfold aSweep vwI at z; omega)]
        exact hw q' hq' n0 x y hx hy
  · rw [nI_clamp (by omega)] at z
    exact K h mFr2.rf (hw q hq z) hw
end
/-- the chart: n coasts, the class's at ids I -/
def cCo (h : mH) (a : Nat) (C : aCo) : Prop := mT h a = 2 ∧ mCoX h a C ∧ okRing C ∧ cLa h a C ∧ cSw h a C
def cCh (h : mH) (n : Nat) (I : Nat → Nat) (Cs : Nat → aCo) : Prop := mI h 33 1 = nI n ∧ n ≤ 8 ∧ ∀ c, c < n → mR h 34 c = some (I c) ∧ cCo h (I c) (Cs c)
def mCh (h : mH) (n : Nat) (Cs : Nat → aCo) : Prop := mI h 47 0 = nI n ∧ n ≤ 8 ∧ ∀ c, c < n → mCoM h c (Cs c) ∧ okRing (Cs c) ∧ mLa h c (Cs c)
def okFa (n : Nat) (v1 v2 v3 v4 v5 : Int32) : Prop := (0 ≤ v1.toInt ∧ v1.toInt < n) ∧ ¬ f_X11_inGrid v2 v3 = 0 ∧ ¬ f_X11_within v4 0 3 = 0 ∧ ¬ f_X11_within v5 0 2 = 0
theorem wi_ex {v : Int32} {m : Nat} (hm : m < 1000) (e : ¬ f_X11_within v 0 (nI m) = 0) : ∃ q, q ≤ m ∧ v = nI q := by
  have e2 := Classical.byContradiction (fun t => e (f_wi.mpr t))
  have a1 := Int32.le_iff_toInt_le.mp e2.1
  have a2 := Int32.le_iff_toInt_le.mp e2.2
  rw [nI_toI (by omega)] at a2
  rw [show (0 : Int32).toInt = 0 by decide] at a1
  obtain ⟨q, h1, h2⟩ := nI_ex (n := m + 1) a1 (by omega) (by omega)
  exact ⟨q, by omega, h2⟩
theorem grid_ex {x y : Int32} (e : ¬ f_X11_inGrid x y = 0) : ∃ u v, u < 32 ∧ v < 32 ∧ x = nI u ∧ y = nI v := by
  have e2 := Classical.byContradiction (fun t => e (f_grid.mpr t))
  obtain ⟨u, h1, h2⟩ := nI_ex (n := 32) e2.1.1 e2.1.2 (by omega)
  obtain ⟨v, h3, h4⟩ := nI_ex (n := 32) e2.2.1 e2.2.2 (by omega)
  exact ⟨u, v, h1, h3, h2, h4⟩
section
variable {G : mG} {d : Nat} {b : Nat × Nat} {h : mH} {Q : Option mV → mH → Prop}
theorem c0_get (v1 : Int32) {n : Nat} {I : Nat → Nat} {Cs : Nat → aCo} (hS : mSk h) (hC : cCh h n I Cs) (K1 : ¬ (0 ≤ v1.toInt ∧ v1.toInt < n) → Q (some (.inr none)) h) (K2 : ∀ c, c < n → v1 = nI c → Q (some (.inr (some (I c)))) h) : mC G kX0_get d b [.inr (some 33), .inl v1] h Q := by
  have hn := hC.2.1
  refine qX0_get _ hS ⟨fun z => K1 ?_, fun z => ⟨fun z2 => K1 ?_, fun z2 => ?_⟩⟩
  · have := Int32.lt_iff_toInt_lt.mp z
    rw [show (0 : Int32).toInt = 0 by decide] at this; omega
  · rw [hC.1] at z2
    have := Int32.le_iff_toInt_le.mp z2
    rw [nI_toI (by omega)] at this; omega
  · have g1 : 0 ≤ v1.toInt := by
      apply Classical.byContradiction; intro t
      exact z (Int32.lt_iff_toInt_lt.mpr (by rw [show (0 : Int32).toInt = 0 by decide]; omega))
    have g2 : v1.toInt < n := by
      apply Classical.byContradiction; intro t
      refine z2 (Int32.le_iff_toInt_le.mpr ?_)
      rw [hC.1, nI_toI (by omega)]; omega
    obtain ⟨c, h1, rfl⟩ := nI_ex (n := n) g1 g2 (by omega)
    rw [nI_clamp (by omega), (hC.2.2 c h1).1]
    exact ⟨vp_in_nI (by omega) (by omega), K2 c h1 rfl⟩
theorem m_isCoast (v1 : Int32) {n : Nat} {Cs : Nat → aCo} (hS : mSk h) (hC : mCh h n Cs) (K1 : ¬ (0 ≤ v1.toInt ∧ v1.toInt < n) → Q (some (.inl 0)) h) (K2 : ∀ c, c < n → v1 = nI c → Q (some (.inl 1)) h) : mC G kX12_isCoast d b [.inr (some 47), .inl v1] h Q := by
  have hn := hC.2.1
  refine qX12_isCoast _ hS ⟨fun z => K1 ?_, fun z w e => ?_⟩
  · have := Int32.lt_iff_toInt_lt.mp z
    rw [show (0 : Int32).toInt = 0 by decide] at this; omega
  · rw [e, hC.1]
    by_cases z2 : nI n ≤ v1
    · rw [if_pos z2]
      refine K1 ?_
      have := Int32.le_iff_toInt_le.mp z2
      rw [nI_toI (by omega)] at this; omega
    · rw [if_neg z2]
      have g1 : 0 ≤ v1.toInt := by
        apply Classical.byContradiction; intro t
        exact z (Int32.lt_iff_toInt_lt.mpr (by rw [show (0 : Int32).toInt = 0 by decide]; omega))
      have g2 : v1.toInt < n := by
        apply Classical.byContradiction; intro t
        refine z2 (Int32.le_iff_toInt_le.mpr ?_)
        rw [nI_toI (by omega)]; omega
      obtain ⟨c, h1, h2⟩ := nI_ex (n := n) g1 g2 (by omega)
      exact K2 c h1 h2
theorem m_facing (v1 v2 v3 v4 v5 : Int32) {n : Nat} {Cs : Nat → aCo} (hS : mSk h) (hC : mCh h n Cs) (K1 : ¬ okFa n v1 v2 v3 v4 v5 → Q (some (.inl (-1))) h)
    (K2 : ∀ c x y q w, c < n → x < 32 → y < 32 → q < 4 → w < 3 → v1 = nI c → v2 = nI x → v3 = nI y → v4 = nI q → v5 = nI w → Q (some (.inl (faC (Cs c) q x y w))) h) : mC G kX12_facing (d + 4) b [.inr (some 47), .inl v1, .inl v2, .inl v3, .inl v4, .inl v5] h Q := by
  have hn := hC.2.1
  refine qX12_facing _ _ _ _ _ hS ?_
  rw [f_cell_eq, f_dir, f_in_eq]
  refine m_isCoast v1 hS hC (fun t => ⟨_, rfl, hS, fun _ => K1 (fun u => t u.1), fun z => absurd rfl z⟩) (fun c hc ec => ⟨_, rfl, hS, fun z => absurd z (by decide), fun _ => ⟨fun t => K1 (fun u => u.2.1 t), fun t2 => ⟨fun t => K1 (fun u => u.2.2.1 t), fun t3 => ⟨fun t4 => ?_, fun t => K1 (fun u => u.2.2.2 t)⟩⟩⟩⟩)
  obtain ⟨x, y, hx, hy, ex, ey⟩ := grid_ex t2
  obtain ⟨q, hq, eq⟩ := wi_ex (m := 3) (by omega) t3
  obtain ⟨w, hw, ew⟩ := wi_ex (m := 2) (by omega) t4
  have K := K2 c x y q w hc hx hy (by omega) (by omega) ec ex ey eq ew
  obtain ⟨k1, k2, k3⟩ := hC.2.2 c hc
  rw [ec, ex, ey, eq, ew]
  unfold faC at K
  refine m_isLandAt hS (by omega) hx hy k3 ⟨_, rfl, hS, fun z => ?_, fun z => ?_⟩
  · have hwa := b2i_0.mp z
    rw [hwa, if_neg (by decide)] at K
    refine ⟨fun z0 => ⟨fun z1 => ?_, fun z1 => ?_⟩, fun z0 => ?_⟩
    · rw [if_neg (fun e => z0 (by rw [e]; rfl)), if_neg (fun e => z1 (by rw [e]; rfl))] at K
      exact m_echoOf hS (by omega) (by omega) hx hy k1 k2 k3 hwa ⟨_, rfl, hS, K⟩
    · have z1' : nI w = nI 1 := z1
      rw [nI_eq (by omega) (by omega)] at z1'
      rw [if_neg (by omega), if_pos z1'] at K
      exact m_sortTo hS (by omega) (by omega) hx hy k1 k2 k3 hwa ⟨_, rfl, hS, K⟩
    · have z1' : nI w = nI 0 := z0
      rw [nI_eq (by omega) (by omega)] at z1'
      rw [if_pos z1'] at K
      exact m_stepsTo hS (by omega) (by omega) hx hy k3 ⟨_, rfl, hS, K⟩
  · cases hb : coLand (Cs c) x y with
    | true => rw [hb, if_pos rfl] at K; exact K
    | false => rw [hb] at z; exact absurd rfl z
set_option maxHeartbeats 1000000 in
theorem c11_facing (v1 v2 v3 v4 v5 : Int32) {n : Nat} {I : Nat → Nat} {Cs : Nat → aCo} (hS : mSk h) (hC : cCh h n I Cs) (K1 : ¬ okFa n v1 v2 v3 v4 v5 → Q (some (.inl (-1))) h)
    (K2 : ∀ c x y q w, c < n → x < 32 → y < 32 → q < 4 → w < 3 → v1 = nI c → v2 = nI x → v3 = nI y → v4 = nI q → v5 = nI w → ∀ h', mFr2 (aSweep (I c) q) h h' → cSw h' (I c) (Cs c) → Q (some (.inl (faC (Cs c) q x y w))) h') : mC G kX11_facing (d + 3) b [.inr (some 8), .inl v1, .inl v2, .inl v3, .inl v4, .inl v5] h Q := by
  have hn := hC.2.1
  refine qX11_facing _ _ _ _ _ hS ?_
  refine c0_get v1 hS hC (fun t => ⟨_, rfl, hS, fun w3 e3 => ⟨fun _ => K1 (fun u => t u.1), fun y z => nomatch z⟩⟩) (fun c hc ec => ⟨_, rfl, hS, fun w3 e3 => ⟨fun z => (nomatch z), fun a ea => ?_⟩⟩)
  cases ea
  obtain ⟨-, ta, hX, ok, hL, hsw⟩ := hC.2.2 c hc
  refine ⟨ta, fun z => ?_, fun z => K1 (fun u => ?_)⟩
  · have g : ¬ f_X11_inGrid v2 v3 = 0 ∧ ¬ f_X11_within v4 0 3 = 0 ∧ ¬ f_X11_within v5 0 2 = 0 := by
      rw [e3] at z
      refine ⟨fun t => z (by rw [if_pos t]), fun t => z (by rw [if_pos t]; split <;> rfl), fun t => z (by rw [if_pos t]; split <;> first | rfl | (split <;> rfl))⟩
    obtain ⟨x, y, hx, hy, ex, ey⟩ := grid_ex g.1
    obtain ⟨q, hq, eq⟩ := wi_ex (m := 3) (by omega) g.2.1
    obtain ⟨w, hw, ew⟩ := wi_ex (m := 2) (by omega) g.2.2
    have K := K2 c x y q w hc hx hy (by omega) (by omega) ec ex ey eq ew
    rw [ex, ey, eq, ew]
    refine c1_isLand hS ta hL hx hy ⟨_, rfl, hS, ta, fun z => ?_, fun z => ?_⟩
    · have hwa := b2i_0.mp z
      refine c1_sweep hS ta hX ok hL hsw (by omega) (fun h' f' hv hs' => ⟨rfl, f'.1.sk hS, by rw [f'.1.2.1]; exact ta, ?_⟩)
      have K3 := K h' f' hs'
      unfold faC at K3
      rw [hwa, if_neg (by decide)] at K3
      have hib : vwI q x y < 4096 := by unfold vwI; omega
      have gi : nI q * 1024 + nI y * 32 + nI x = nI (vwI q x y) := by
        rw [L1024, L32, pk_mul, pk_mul, nI_add, nI_add]; rfl
      rw [gi, nI_clamp (by omega), hv x y hx hy]
      refine ⟨vp_in_nI hib (by omega), ?_⟩
      have h1 := fcS_le (Cs c) q (rm4 q x y) x y
      have h2 := fcO_le ok (q := q) (rm4 q x y) x y
      have h3 := rm4_31 (q := q) hx hy
      unfold vwC
      rw [hwa, if_neg (by decide)]
      unfold soT ecC at K3
      by_cases h0 : fcS (Cs c) q (rm4 q x y) x y = 0
      · simp only [if_pos h0] at K3 ⊢
        refine ⟨fun z0 => ⟨fun z1 => ?_, fun z1 w9 e9 => ?_⟩, fun z0 => ?_⟩
        · rw [if_neg (fun e => z0 (by rw [e]; rfl)), if_neg (fun e => z1 (by rw [e]; rfl))] at K3
          exact K3
        · have z1' : nI w = nI 1 := z1
          rw [nI_eq (by omega) (by omega)] at z1'
          rw [if_neg (by omega), if_pos z1'] at K3
          rw [e9, if_neg (fun t => t trivial)]; exact K3
        · have z1' : nI w = nI 0 := z0
          rw [nI_eq (by omega) (by omega)] at z1'
          rw [if_pos z1', h0] at K3
          exact K3
      · simp only [if_neg h0] at K3 ⊢
        obtain ⟨d1, d2, d3⟩ := vw_dec (4 * fcS (Cs c) q (rm4 q x y) x y + fcO (Cs c) q (rm4 q x y) x y) (by omega)
        rw [show (4 * fcS (Cs c) q (rm4 q x y) x y + fcO (Cs c) q (rm4 q x y) x y) / 4 = fcS (Cs c) q (rm4 q x y) x y by omega] at d1 d3
        rw [show (4 * fcS (Cs c) q (rm4 q x y) x y + fcO (Cs c) q (rm4 q x y) x y) % 4 = fcO (Cs c) q (rm4 q x y) x y by omega] at d2 d3
        rw [d1, d2, d3]
        refine ⟨fun z0 => ⟨fun z1 => ?_, fun z1 w9 e9 => ?_⟩, fun z0 => ?_⟩
        · rw [if_neg (fun e => z0 (by rw [e]; rfl)), if_neg (fun e => z1 (by rw [e]; rfl))] at K3
          rw [L2, pk_mul]
          by_cases h5 : fcO (Cs c) q (rm4 q x y) x y = 1
          · rw [if_pos h5] at K3 ⊢; exact K3
          · rw [if_neg h5] at K3 ⊢; exact K3
        · have z1' : nI w = nI 1 := z1
          rw [nI_eq (by omega) (by omega)] at z1'
          rw [if_neg (by omega), if_pos z1'] at K3
          rw [e9, if_pos (fun t => ?_)]
          · exact K3
          · have t' : nI (4 * fcS (Cs c) q (rm4 q x y) x y + fcO (Cs c) q (rm4 q x y) x y) = nI 0 := t
            rw [nI_eq (by omega) (by omega)] at t'; omega
        · have z1' : nI w = nI 0 := z0
          rw [nI_eq (by omega) (by omega)] at z1'
          rw [if_pos z1'] at K3
          exact K3
    · cases hb : coLand (Cs c) x y with
      | true =>
        have K3 := K h mFr2.rf hsw
        unfold faC at K3
        rw [hb, if_pos rfl] at K3; exact K3
      | false => rw [hb] at z; exact absurd rfl z
  · rw [e3, if_neg u.2.1, if_neg u.2.2.1, if_neg u.2.2.2] at z
    exact absurd z (by decide)
end
