/-! the law -/
theorem lkR_n {a k : Nat} : ∀ {RL : List (Nat × Nat × Option Nat)}, (∀ q ∈ RL, q.1 ≠ a) → lkR RL a k = none
  | [], _ => rfl
  | q :: l, h => by
    unfold lkR
    rw [if_neg (fun z => h q (by simp) z.1.symm)]
    exact lkR_n (fun q' hq => h q' (by simp [hq]))
theorem fin94 {p : Nat → Prop} {h : mH} (b : bld h 94 tlF rlF ilF) {t : Nat} (ht : t ≠ 0) (a : Nat) (ha : mT h a = t) : a < 94 := by
  refine Classical.byContradiction (fun z => ht ?_)
  have := b.2.1 a
  rw [lkT_f b.2.2.2.2.1 (by omega)] at this
  have e : mT h a = 0 := congrArg Prod.fst this
  rw [← ha, e]
theorem sk1 : ∀ q ∈ skTL, lkT tlF q.1 = (q.2.1, q.2.2) := by decide +kernel
theorem sk2 : ∀ q ∈ skRL, lkR rlF q.1 q.2.1 = some q.2.2 := by decide +kernel
theorem sk4 : ∀ q ∈ skBTL, q.1 ≠ 0 ∧ ∀ a, a < 94 → (lkT tlF a).1 = q.1 → lkT tlF (a + q.2.1) = (q.2.2.1, q.2.2.2) := by decide +kernel
theorem sk5 : ∀ q ∈ skBRL, q.1 ≠ 0 ∧ ∀ a, a < 94 → (lkT tlF a).1 = q.1 → lkR rlF a q.2.1 = some (a + q.2.2) := by decide +kernel
theorem sk6 : ∀ a, a < 94 → (lkT tlF a).1 ≠ 2 ∧ (lkT tlF a).1 ≠ 6 ∧ (lkT tlF a).1 ≠ 8 := by decide +kernel
theorem sk7 : (∀ q ∈ rlF, q.1 ≠ 29) ∧ ∀ q ∈ rlF, q.1 ≠ 34 := by decide +kernel
theorem i_sk {h : mH} (b : bld h 94 tlF rlF ilF) : mSk h := by
  have t1 : ∀ a, mT h a = (lkT tlF a).1 := fun a => congrArg Prod.fst (b.2.1 a)
  have l1 : ∀ a, mL h a = (lkT tlF a).2 := fun a => congrArg Prod.snd (b.2.1 a)
  refine ⟨fun q hq => ⟨by rw [t1, sk1 q hq], by rw [l1, sk1 q hq]⟩, fun q hq => by rw [b.2.2.1, sk2 q hq], ⟨by rw [b.1]; exact Nat.le_refl _, fun a ha => ?_⟩, fun q hq a ha => ?_, fun q hq a ha => ?_⟩
  · rw [b.1] at ha
    rw [t1, lkT_f b.2.2.2.2.1 ha]
  · have hl := fin94 (p := fun _ => True) b (sk4 q hq).1 a ha
    have := (sk4 q hq).2 a hl (by rw [← t1]; exact ha)
    exact ⟨by rw [t1, this], by rw [l1, this]⟩
  · have hl := fin94 (p := fun _ => True) b (sk5 q hq).1 a ha
    rw [b.2.2.1]
    exact (sk5 q hq).2 a hl (by rw [← t1]; exact ha)
def W0 : aW := ((0, fun _ => (0, fun _ => 0, fun _ => 0, fun _ => 0)), (0, fun _ => (0, 0, 0, 0)), (0, fun _ => (0, 0), fun _ => 0, fun _ => 0), (0, fun _ => ((0, 0), (0, 0, 0), 0, fun _ => (false, 0, 0, 0))), (0, 0, 31, 31), 0)
def CH0 : aCc := (0, fun _ => ((0, 0), 0))
theorem stB01 : stB 0 1 := ⟨0, 1, rfl, rfl, by omega, by omega⟩
theorem i_st {h : mH} (b : bld h 94 tlF rlF ilF) : cSt h W0 (fun _ => 0) := by
  have no : ∀ t, t = 2 ∨ t = 6 ∨ t = 8 → ∀ a, mT h a = t → False := by
    intro t ht a ha
    have hl := fin94 (p := fun _ => True) b (by omega) a ha
    have t1 : mT h a = (lkT tlF a).1 := congrArg Prod.fst (b.2.1 a)
    have := sk6 a hl
    rw [t1] at ha
    omega
  have r29 : ∀ k, mR h 29 k = none := fun k => (b.2.2.1 29 k).trans (lkR_n sk7.1)
  have z0 : ∀ {c : Nat}, c < 0 → False := fun h => Nat.not_lt_zero _ h
  refine ⟨⟨⟨b.ig rfl, Nat.zero_le _, fun c hc => (z0 hc).elim⟩, fun c hc => (z0 hc).elim, fun c c' hc => (z0 hc).elim, ⟨b.ig rfl, Nat.zero_le _, fun c hc => (z0 hc).elim⟩, ⟨16, Or.inl rfl, b.rg rfl, b.ig rfl, fun q hq => ?_, fun q hq => (z0 hq).elim⟩, ⟨Nat.zero_le _, fun q hq => (z0 hq).elim⟩, ⟨b.ig rfl, Nat.zero_le _, fun c hc => (z0 hc).elim⟩, ⟨b.ig rfl, Nat.zero_le _⟩, ⟨⟨b.ig rfl, b.ig rfl, fun x hx => ?_⟩, by unfold okBx; decide⟩, ⟨fun i j a e => ?_, fun a a' k k' v e => (no 6 (by omega) a e).elim⟩, fun i lid k v hi => (z0 hi).elim⟩, fun c hc => (z0 hc).elim, fun v r tv => (no 8 (by omega) v tv).elim, fun i lid e => ?_, fun a k v e => (no 6 (by omega) a e).elim⟩
  · have hq' : q ≤ 0 := hq
    have : q = 0 := by omega
    subst this
    exact b.ig rfl
  · rw [b.ig (a := 28) (k := 5) (v := -1) rfl, bt_m1 x hx]
    exact (decide_eq_true (show 0 ≤ x ∧ x ≤ 31 by omega)).symm
  · rw [r29] at e; cases e
  · rw [r29] at e; cases e
theorem i_c {h : mH} (b : bld h 94 tlF rlF ilF) : cIn h W0 (fun _ => 0) 0 (fun _ => 0) CH0 1 := by
  have e8 : mI h 8 7 = 1 := b.ig rfl
  have n01 : ¬ (0 : Int32) = 1 := by decide
  have s1 : mI h 28 12 = 0 := b.ig rfl
  have s2 : mI h 33 6 = 0 := b.ig rfl
  have s3 : mI h 41 12 = 0 := b.ig rfl
  have s4 : mI h 41 13 = 0 := b.ig rfl
  have s5 : mI h 38 7 = 0 := b.ig rfl
  have bz : ∀ i, bt CH0.1 i = true → False := fun i z => by
    have : bt (0 : Int32) i = true := z
    rw [bt_0] at this
    cases this
  refine ⟨i_sk b, i_st b, tp0 (b.ig rfl), ⟨b.ig rfl, fun i _ z => (bz i z).elim, fun i _ z => (bz i z).elim⟩, ⟨16, 21, Or.inl ⟨rfl, rfl⟩, b.rg rfl, b.rg rfl, b.ig rfl, b.ig rfl⟩, ⟨e8, by omega⟩, ⟨fun z => ?_, by rw [s1, e8]; exact stB01⟩, ⟨fun z => ?_, by rw [s2, e8]; exact stB01⟩, ⟨fun z => ?_, by rw [s3, e8]; exact stB01⟩, ⟨fun z => ?_, by rw [s4, e8]; exact stB01⟩, ⟨fun z => ?_, by rw [s5, e8]; exact stB01⟩, fun z => ?_, fun z => ?_⟩
  · rw [s1, e8] at z; exact absurd z n01
  · rw [s2, e8] at z; exact absurd z n01
  · rw [s3, e8] at z; exact absurd z n01
  · rw [s4, e8] at z; exact absurd z n01
  · rw [s5, e8] at z; exact absurd z n01
  · rw [s3, e8] at z; exact absurd z n01
  · rw [s4, e8] at z; exact absurd z n01
theorem i_m {h : mH} (b : bld h 94 tlF rlF ilF) : mIn h W0 0 (fun _ => 0) CH0 := by
  have z0 : ∀ {c : Nat}, c < 0 → False := fun h => Nat.not_lt_zero _ h
  have bz : ∀ i, bt CH0.1 i = true → False := fun i z => by
    have : bt (0 : Int32) i = true := z
    rw [bt_0] at this
    cases this
  exact ⟨⟨⟨b.ig rfl, Nat.zero_le _, fun c hc => (z0 hc).elim⟩, ⟨b.ig rfl, Nat.zero_le _, fun c hc => (z0 hc).elim⟩, ⟨b.ig rfl, fun q hq => (z0 hq).elim⟩, ⟨Nat.zero_le _, fun q hq => (z0 hq).elim⟩, ⟨b.ig rfl, Nat.zero_le _, fun c hc => (z0 hc).elim⟩, ⟨⟨b.ig rfl, b.ig rfl, b.ig rfl, b.ig rfl⟩, by unfold okBx; decide⟩, b.ig rfl, Nat.zero_le _⟩, tm0 (b.ig rfl), b.ig rfl, fun i _ z => (bz i z).elim, fun i _ z => (bz i z).elim⟩
theorem c47 (G : mG) : mTr (gRn sgm G) (.inr (some 47)) = mTr G (.inr (some 48)) := by
  show Value.ref (gC G (sgm 47)) = Value.ref (gC G 48)
  rw [show sgm 47 = 48 by decide]
theorem c8i (G : mG) : mTr (gRn sgm G) (.inr (some 8)) = mTr G (.inr (some 8)) := by
  show Value.ref (gC G (sgm 8)) = Value.ref (gC G 8)
  rw [show sgm 8 = 8 by decide]
theorem c0i (G : mG) : mTr (gRn sgm G) (.inr (some 0)) = mTr G (.inr (some 0)) := by
  show Value.ref (gC G (sgm 0)) = Value.ref (gC G 0)
  rw [show sgm 0 = 0 by decide]
set_option maxHeartbeats 4000000 in
set_option maxRecDepth 100000 in
theorem m_law {G : mG} (hG : gN G ≤ 3584) (gid : ∀ k, 8 ≤ k → gC G k = gB G + (k - 8)) : mW G kL_law 1000 (600000, 7302250) 0 (mEnt 4 [.inr (some 0)]) [] (8, fun _ => 0, fun _ => 0, fun _ _ => 0, fun _ _ => none) (fun r _ => r = some (.inl 1)) := by
  obtain ⟨h0, e0⟩ : ∃ h0 : mH, h0 = (8, fun _ => 0, fun _ => 0, fun _ _ => 0, fun _ _ => none) := ⟨_, rfl⟩
  have b0 : bld h0 8 [] [] [] := by
    rw [e0]
    exact ⟨rfl, fun _ => rfl, fun _ _ => rfl, fun _ _ => rfl, fun q hq => (by cases hq), fun q hq => (by cases hq), fun q hq => (by cases hq)⟩
  rw [← e0]
  show mW _ _ _ _ _ [some (.inr (some 0)), none, none, none] _ _ _
  refine mw_newC (pc' := 3) (b1 := 599999) (b2 := 7302242) (ci := 11) (N := 8) dL_law_0 rfl rfl nwL_7 (by decide) rfl (fun h1 e1 => ?_)
  have c1 := b0.al e1
  rw [b0.1]
  refine mw_dup (pc' := 4) dL_law_3 rfl ?_
  refine mw_callI (d := 999) (pc' := 7) (b' := (39, 6474)) (b1 := (599960, 7295768)) (av := []) (rest := [.inr (some 8)]) dL_law_4 rfl lkL_9 rfl rfl (Nat.le_of_ble_eq_true rfl) ⟨by decide, by decide⟩ ?_
  refine i_X11 (d := 995) (b1 := 0) (b2 := 0) c1 (fun h2 c2 => ?_)
  show mW _ _ _ _ _ _ [.inr (some 8)] _ _
  refine mw_astore_n (pc' := 8) dL_law_7 rfl (by decide) ?_
  refine mw_newC (pc' := 11) (b1 := 599959) (b2 := 7295702) (ci := 12) (N := 66) dL_law_8 rfl rfl nwL_10 (by decide) rfl (fun h3 e3 => ?_)
  have c3 := c2.al e3
  rw [c2.1]
  refine mw_dup (pc' := 12) dL_law_11 rfl ?_
  refine mw_callI (d := 999) (pc' := 15) (b' := (45, 96790)) (b1 := (599914, 7198912)) (av := []) (rest := [.inr (some 48)]) dL_law_12 rfl lkL_12 rfl rfl (Nat.le_of_ble_eq_true rfl) ⟨by decide, by decide⟩ ?_
  refine iX12 (d := 998) (b1 := 0) (b2 := 0) (a := 48) c3 (c3.tg (n := 0) rfl) (by decide) (fun h4 c4 => ?_)
  show mW _ _ _ _ _ _ [.inr (some 48)] _ _
  refine mw_astore_n (pc' := 16) dL_law_15 rfl (by decide) ?_
  refine mw_iconst (pc' := 17) (v := 0) dL_law_16 rfl (by decide) ?_
  refine mw_istore_n (pc' := 18) dL_law_17 rfl (by decide) ?_
  have b4 : bld h4 94 tlR rlR ilR := c4
  have b5 := b4.rn
  show mW G kL_law 1000 (599914, 7198912) 18 [some (.inr (some 0)), some (.inr (some 8)), some (.inr (some 48)), some (.inl (nI 0))] [] h4 _
  refine mw_rn (N := 93) ok_rn (by decide) (by decide) gid [some (.inr (some 0)), some (.inr (some 8)), some (.inr (some 47)), some (.inl (nI 0))] (by rw [b4.1]; decide) (fun i v hv => ?_) ?_
  · match i, hv with
    | 0, hv => cases hv; exact ⟨_, rfl, c0i G⟩
    | 1, hv => cases hv; exact ⟨_, rfl, c8i G⟩
    | 2, hv => cases hv; exact ⟨_, rfl, c47 G⟩
    | 3, hv => cases hv; exact ⟨_, rfl, rfl⟩
    | n + 4, hv => simp at hv
  · exact mw_bud (by decide) (by decide) (m_loop (G := gRn sgm G) hG 512 0 (hRn sgm tau h4) W0 (fun _ => 0) 0 (fun _ => 0) CH0 1 (by show gN G ≤ 0 + 7 * 512; omega) (by omega) (by omega) (i_c b5) (i_m b5))
