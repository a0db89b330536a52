/-! the calls, one by one: what only asks -/
theorem gi_n : ∀ x, x < 32 → ∀ y, y < 32 → ¬ f_X11_inGrid (nI x) (nI y) = 0 := by decide +kernel
theorem wi_n {q m : Nat} (hq : q ≤ m) (hm : m < 1000) : ¬ f_X11_within (nI q) 0 (nI m) = 0 := fun z => ((in_n (a := q) (lo := 0) (hi := m) (by omega) (by omega) hm).mp z) ⟨by omega, hq⟩
theorem ti_n {c n : Nat} (h : c < n) (hn : n ≤ 1000) : 0 ≤ (nI c).toInt ∧ (nI c).toInt < n := by
  rw [nI_toI (by omega)]; omega
theorem nE {v : Int32} {a c : Nat} (e1 : v = nI a) (e2 : v = nI c) (ha : a < 100000) (hc : c < 100000) : a = c := nI_bk (by omega) (by omega) (e1.symm.trans e2)
/-- the model's cells that asking may change -/
def mQ (x k : Nat) : Prop := x = 67 ∨ x = 68 ∨ (78 ≤ x ∧ x ≤ 80) ∨ (84 ≤ x ∧ x ≤ 92) ∨ (x = 47 ∧ (k = 51 ∨ k = 53))
theorem mq {A : Nat → Nat → Prop} {h h' : mH} {W : aW} {I : Nat → Nat} {n j j0 : Nat} {t : Nat → Nat} {CH : aCc} {P : mH → Prop} (f : mFr2 A h h') (hA : ∀ x k, A x k → mQ x k) (C : cIn h W I n t CH j) (M : mIn h W n t CH) (K : inK P j0) (hj : j ≤ j0 + 1) : P h' := by
  refine K h' W I n t CH j (C.fr f (fun x k z => by have := hA x k z; unfold mQ at this; omega)) (M.fr f (fun x k z q => by have := hA x k z; unfold mQ at this; omega) (M.1.fr f (fun a k z q => by have := hA a k q; unfold mQ at this; unfold dM at z; omega))) hj
section
variable {G : mG} {D : Nat} {b : Nat × Nat} {h : mH} {Q : Option mV → mH → Prop} {P : mH → Prop} {T : Prop → Prop} {W : aW} {I : Nat → Nat} {n j : Nat} {t : Nat → Nat} {CH : aCc}
theorem op_land (v1 v2 v3 : Int32) (C : cIn h W I n t CH j) (M : mIn h W n t CH) (hT : ∀ p : Prop, p → T p) (K : inK P j) : mC G kX11_land (D + 30) b [.inr (some 8), .inl v1, .inl v2, .inl v3] h (opR G (D + 30) kX12_land [.inr (some 47), .inl v1, .inl v2, .inl v3] T P Q) := by
  have KK : P h := K h W I n t CH j C M (by omega)
  have hn8 := C.2.1.1.1.2.1
  refine c11_land v1 v2 v3 C.1 C.2.1.1.1 (fun u => ⟨_, rfl, C.1, hT _ ?_⟩) (fun c x y hc hx hy e1 e2 e3 => ⟨_, rfl, C.1, hT _ ?_⟩)
  · refine m_land v1 v2 v3 C.1 M.1.1 (fun _ => ⟨_, rfl, C.1, fun _ => KK, fun w => absurd rfl w⟩) (fun c x y hc hx hy e1 e2 e3 => (u ?_).elim)
    subst e1; subst e2; subst e3
    exact ⟨ti_n hc (by omega), gi_n x hx y hy⟩
  · refine m_land v1 v2 v3 C.1 M.1.1 (fun u => (u ?_).elim) (fun c' x' y' hc' hx' hy' e1' e2' e3' => ⟨_, rfl, C.1, fun _ => KK, fun w => (w ?_).elim⟩)
    · subst e1; subst e2; subst e3
      exact ⟨ti_n hc (by omega), gi_n x hx y hy⟩
    · rw [nE e1 e1' (by omega) (by omega), nE e2 e2' (by omega) (by omega), nE e3 e3' (by omega) (by omega)]
theorem op_facing (v1 v2 v3 v4 v5 : Int32) (C : cIn h W I n t CH j) (M : mIn h W n t CH) (hT : ∀ p : Prop, p → T p) (K : inK P j) : mC G kX11_facing (D + 30) b [.inr (some 8), .inl v1, .inl v2, .inl v3, .inl v4, .inl v5] h (opR G (D + 30) kX12_facing [.inr (some 47), .inl v1, .inl v2, .inl v3, .inl v4, .inl v5] T P Q) := by
  have KK : P h := K h W I n t CH j C M (by omega)
  have hn8 := C.2.1.1.1.2.1
  have okk : ∀ c x y q w, c < wn W → x < 32 → y < 32 → q < 4 → w < 3 → v1 = nI c → v2 = nI x → v3 = nI y → v4 = nI q → v5 = nI w → okFa (wn W) v1 v2 v3 v4 v5 := by
    intro c x y q w hc hx hy hq hw e1 e2 e3 e4 e5
    subst e1; subst e2; subst e3; subst e4; subst e5
    exact ⟨ti_n hc (by omega), gi_n x hx y hy, wi_n (m := 3) (by omega) (by omega), wi_n (m := 2) (by omega) (by omega)⟩
  refine c11_facing v1 v2 v3 v4 v5 C.1 C.2.1.1.1 (fun u => ⟨_, rfl, C.1, hT _ ?_⟩) (fun c x y q w hc hx hy hq hw e1 e2 e3 e4 e5 h1 f1 s1 => ?_)
  · exact m_facing v1 v2 v3 v4 v5 C.1 M.1.1 (fun _ => ⟨_, rfl, C.1, fun _ => KK, fun w => absurd rfl w⟩) (fun c x y q w hc hx hy hq hw e1 e2 e3 e4 e5 => (u (okk c x y q w hc hx hy hq hw e1 e2 e3 e4 e5)).elim)
  · have st := C.2.1
    have ta := (st.1.1.2.2 c hc).2.1
    have ha := (st.1.2.1 c hc).1
    have qa : ∀ x k, aSweep (I c) q x k → qC x k := fun x k z => by unfold aSweep at z; unfold qC; omega
    have gb : mFr2 (aGb h (I c) c) h h1 := f1.wk (fun x k z => Or.inr (Or.inr (Or.inl (Or.inr (by unfold aSweep at z; omega)))))
    have st1 : cSt h1 W I := st.gb C.1 hc gb s1 (kcA.fr f1 st.1.2.2.2.2.2.2.1 (fun v i k tv hv hi z => by
      have ap := ap82 C.1 tv ta
      have := ap i 3 (by omega) (by omega)
      have := ap i 4 (by omega) (by omega)
      unfold aSweep at z; omega) st.1.2.2.2.2.2.2.2.2.2.2)
    have ca1 : caI h1 W I CH := C.2.2.2.2.2.2.fr f1 (flK.gb C.1 hc gb st.1) (fun x k z q => by unfold aSweep at q; unfold caK at z; omega)
    have C1 : cIn h1 W I n t CH j := C.q f1 qa st1 ca1
    have M1 := q_m M f1 qa
    refine ⟨_, rfl, C1.1, hT _ ?_⟩
    refine m_facing v1 v2 v3 v4 v5 C1.1 M1.1.1 (fun u => (u (okk c x y q w hc hx hy hq hw e1 e2 e3 e4 e5)).elim) (fun c' x' y' q' w' hc' hx' hy' hq' hw' e1' e2' e3' e4' e5' => ⟨_, rfl, C1.1, fun _ => K h1 W I n t CH j C1 M1 (by omega), fun u => (u ?_).elim⟩)
    rw [nE e1 e1' (by omega) (by omega), nE e2 e2' (by omega) (by omega), nE e3 e3' (by omega) (by omega), nE e4 e4' (by omega) (by omega), nE e5 e5' (by omega) (by omega)]
theorem op_level (v1 v2 v3 v4 v5 v6 : Int32) (C : cIn h W I n t CH j) (M : mIn h W n t CH) (hT : ∀ p : Prop, p → T p) (K : inK P j) : mC G kX11_level (D + 30) b [.inr (some 8), .inl v1, .inl v2, .inl v3, .inl v4, .inl v5, .inl v6] h (opR G (D + 30) kX12_level [.inr (some 47), .inl v1, .inl v2, .inl v3, .inl v4, .inl v5, .inl v6] T P Q) := by
  have KK : P h := K h W I n t CH j C M (by omega)
  have st := C.2.1
  have hn8 := st.1.1.2.1
  have hm6 := st.1.2.2.2.1.2.1
  have okk : ∀ c s x y hr wi, c < wn W → s < wm W → x < 32 → y < 32 → hr < 24 → wi < 4 → v1 = nI c → v2 = nI s → v3 = nI x → v4 = nI y → v5 = nI hr → v6 = nI wi → okLv (wn W) (wm W) v1 v2 v3 v4 v5 v6 := by
    intro c s x y hr wi hc hs hx hy hh hw e1 e2 e3 e4 e5 e6
    subst e1; subst e2; subst e3; subst e4; subst e5; subst e6
    exact ⟨ti_n hc (by omega), ti_n hs (by omega), gi_n x hx y hy, wi_n (m := 23) (by omega) (by omega), wi_n (m := 3) (by omega) (by omega)⟩
  refine c11_level v1 v2 v3 v4 v5 v6 C.1 st.1.1 (fun c hc => (st.1.2.1 c hc).1) st.1.2.2.2.1 st.1.2.2.2.2.1 st.1.2.2.2.2.2.1 (fun u => ⟨_, rfl, C.1, hT _ ?_⟩) (fun c s x y hr wi hc hs hx hy hh hw e1 e2 e3 e4 e5 e6 h1 f1 => ?_)
  · exact m_level v1 v2 v3 v4 v5 v6 C.1 M.1.1 M.1.2.1 M.1.2.2.1 M.1.2.2.2.1 (fun _ => ⟨_, rfl, C.1, fun _ => KK, fun w => absurd rfl w⟩) (fun c s x y hr wi hc hs hx hy hh hw e1 e2 e3 e4 e5 e6 => (u (okk c s x y hr wi hc hs hx hy hh hw e1 e2 e3 e4 e5 e6)).elim)
  · have qa : ∀ x k, aEr x k → qC x k := fun x k z => by unfold aEr aEar at z; unfold qC; omega
    have C1 : cIn h1 W I n t CH j := C.q f1 qa (st.lo f1 (fun x k z => ⟨by unfold aEr aEar at z; omega, by unfold aEr aEar at z; unfold wl0; omega⟩)) (C.2.2.2.2.2.2.fr f1 (flK.lo st.1 f1 (fun x k q z => by unfold aEr aEar at z; omega)) (fun x k z q => by unfold aEr aEar at q; unfold caK at z; omega))
    have M1 := q_m M f1 qa
    refine ⟨_, rfl, C1.1, hT _ ?_⟩
    refine m_level v1 v2 v3 v4 v5 v6 C1.1 M1.1.1 M1.1.2.1 M1.1.2.2.1 M1.1.2.2.2.1 (fun u => (u (okk c s x y hr wi hc hs hx hy hh hw e1 e2 e3 e4 e5 e6)).elim) (fun c' s' x' y' hr' wi' hc' hs' hx' hy' hh' hw' e1' e2' e3' e4' e5' e6' h2 f2 => ⟨_, rfl, f2.1.sk C1.1, fun _ => mq f2 (fun x k z => by unfold aLvM at z; unfold mQ; omega) C1 M1 K (by omega), fun u => (u ?_).elim⟩)
    rw [nE e1 e1' (by omega) (by omega), nE e2 e2' (by omega) (by omega), nE e3 e3' (by omega) (by omega), nE e4 e4' (by omega) (by omega), nE e5 e5' (by omega) (by omega), nE e6 e6' (by omega) (by omega)]
theorem cIn.f1 {h1 : mH} (C : cIn h W I n t CH j) (f1 : mFr2 aF1 h h1) (st1 : cSt h1 W I) (k1 : flK h h1 W I) : cIn h1 W I n t CH j := C.q f1 (fun x k => aF1_q) st1 (C.2.2.2.2.2.2.fr f1 k1 (fun x k z q => by unfold aF1 aEr aEar at q; unfold caK at z; omega))
theorem op_fits (v1 : Int32) (C : cIn h W I n t CH j) (M : mIn h W n t CH) (hT : ∀ p : Prop, p → T p) (K : inK P j) : mC G kX11_fits (D + 30) b [.inr (some 8), .inl v1] h (opR G (D + 30) kX12_fits [.inr (some 47), .inl v1] T P Q) := by
  have KK : P h := K h W I n t CH j C M (by omega)
  have hn8 := C.2.1.1.1.2.1
  refine c11_fits v1 C.1 C.2.1 (fun u => ⟨_, rfl, C.1, hT _ ?_⟩) (fun c hc e1 h1 f1 s1 k1 => ?_)
  · exact m_fits v1 C.1 M.1 (fun _ => ⟨_, rfl, C.1, fun _ => KK, fun w => absurd rfl w⟩) (fun c hc e1 => (u (by rw [e1]; exact ti_n hc (by omega))).elim)
  · have C1 := C.f1 f1 s1 k1
    have M1 := q_m M f1 (fun x k => aF1_q)
    refine ⟨_, rfl, C1.1, hT _ ?_⟩
    refine m_fits v1 C1.1 M1.1 (fun u => (u (by rw [e1]; exact ti_n hc (by omega))).elim) (fun c' hc' e1' h2 f2 => ⟨_, rfl, f2.1.sk C1.1, fun _ => mq f2 (fun x k z => by unfold aFo at z; unfold mQ; omega) C1 M1 K (by omega), fun u => (u ?_).elim⟩)
    rw [nE e1 e1' (by omega) (by omega)]
theorem wBad_one {c i i' : Nat} (h1 : wBad W c i) (h2 : wBad W c i') : i = i' := by
  obtain ⟨a1, a2, a3⟩ := h1
  obtain ⟨b1, b2, b3⟩ := h2
  by_cases z : i < i'
  · have := b3 i z; omega
  · by_cases z2 : i' < i
    · have := a3 i' z2; omega
    · omega
theorem op_firstBad (v1 : Int32) (C : cIn h W I n t CH j) (M : mIn h W n t CH) (hT : ∀ p : Prop, p → T p) (K : inK P j) : mC G kX11_firstBad (D + 30) b [.inr (some 8), .inl v1] h (opR G (D + 30) kX12_firstBad [.inr (some 47), .inl v1] T P Q) := by
  have KK : P h := K h W I n t CH j C M (by omega)
  have hn8 := C.2.1.1.1.2.1
  refine c11_firstBad v1 C.1 C.2.1 (fun u => ⟨_, rfl, C.1, hT _ ?_⟩) (fun c hc e1 h1 f1 s1 k1 => ?_)
  · exact m_firstBad v1 C.1 M.1 (fun _ => ⟨_, rfl, C.1, fun _ => KK, fun w => absurd rfl w⟩) (fun c hc e1 => (u (by rw [e1]; exact ti_n hc (by omega))).elim)
  · have C1 := C.f1 f1 s1 k1
    have M1 := q_m M f1 (fun x k => aF1_q)
    have fo : ∀ x k, aFo x k → mQ x k := fun x k z => by unfold aFo at z; unfold mQ; omega
    refine ⟨fun wf => ⟨_, rfl, C1.1, hT _ ?_⟩, fun wf i hb => ⟨_, rfl, C1.1, hT _ ?_⟩⟩
    · refine m_firstBad v1 C1.1 M1.1 (fun u => (u (by rw [e1]; exact ti_n hc (by omega))).elim) (fun c' hc' e1' h2 f2 => ⟨fun wf' => ⟨_, rfl, f2.1.sk C1.1, fun _ => mq f2 fo C1 M1 K (by omega), fun u => absurd rfl u⟩, fun wf' => ?_⟩)
      rw [← nE e1 e1' (by omega) (by omega), wf] at wf'
      cases wf'
    · refine m_firstBad v1 C1.1 M1.1 (fun u => (u (by rw [e1]; exact ti_n hc (by omega))).elim) (fun c' hc' e1' h2 f2 => ⟨fun wf' => ?_, fun wf' i' hb' => ⟨_, rfl, f2.1.sk C1.1, fun _ => mq f2 fo C1 M1 K (by omega), fun u => (u ?_).elim⟩⟩)
      · rw [← nE e1 e1' (by omega) (by omega), wf] at wf'
        cases wf'
      · rw [← nE e1 e1' (by omega) (by omega)] at hb'
        rw [wBad_one hb hb']
theorem cIn.pl {h1 : mH} (C : cIn h W I n t CH j) (f1 : mFr2 aPl h h1) (st1 : cSt h1 W I) (p1 : plC h1 W) (k1 : flK h h1 W I) : cIn h1 W I n t CH j := by
  obtain ⟨-, c2, c3, c4, c5⟩ := C.2.2.2.2.2.2
  have g : ∀ x k, (x = 8 ∨ 33 ≤ x ∧ x < 93) → ¬ aPl x k := fun x k q z => by unfold aPl aF1 aEr aEar at z; omega
  exact C.q f1 (fun x k => aPl_q) st1 ⟨p1, c2.fr f1 k1 (g _ _ (by omega)) (g _ _ (by omega)) (g _ _ (by omega)) (fun k => ⟨g _ _ (by omega), g _ _ (by omega)⟩), c3.fr f1 (g _ _ (by omega)) (fun k _ => g _ _ (by omega)), c4.fr f1 (g _ _ (by omega)) (fun k _ => g _ _ (by omega)), c5.fr f1 (g _ _ (by omega)) (fun k => g _ _ (by omega)) (fun k => g _ _ (by omega)) (g _ _ (by omega)) (g _ _ (by omega))⟩
theorem op_possible (v1 v2 : Int32) (C : cIn h W I n t CH j) (M : mIn h W n t CH) (hT : ∀ p : Prop, p → T p) (K : inK P j) : mC G kX11_possible (D + 30) b [.inr (some 8), .inl v1, .inl v2] h (opR G (D + 30) kX12_possible [.inr (some 47), .inl v1, .inl v2] T P Q) := by
  have KK : P h := K h W I n t CH j C M (by omega)
  have hn8 := C.2.1.1.1.2.1
  have hl12 := C.2.1.1.2.2.2.2.2.2.1.2.1
  have fo : ∀ x k, aFo x k → mQ x k := fun x k z => by unfold aFo at z; unfold mQ; omega
  have m1 : ∀ c, c < 100000 → nI c ≠ (-1 : Int32) := fun c hc => nI_nmb hc
  refine c11_possible v1 v2 C.1 C.2.1 C.2.2.2.2.2.2.1 (fun u => ⟨_, rfl, C.1, hT _ ?_⟩) (fun c i hc hi e1 e2 h1 f1 s1 p1 k1 => ?_) (fun i hi e1 e2 h1 f1 s1 p1 k1 => ?_)
  · exact m_possible v1 v2 C.1 M.1 (fun _ => ⟨_, rfl, C.1, fun _ => KK, fun w => absurd rfl w⟩) (fun c i hc hi e1 e2 => (u ⟨Or.inr (by rw [e1]; exact ti_n hc (by omega)), by rw [e2]; exact ti_n hi (by omega)⟩).elim) (fun i hi e1 e2 => (u ⟨Or.inl e1, by rw [e2]; exact ti_n hi (by omega)⟩).elim)
  · have C1 := C.pl f1 s1 p1 k1
    have M1 := q_m M f1 (fun x k => aPl_q)
    refine ⟨_, rfl, C1.1, hT _ ?_⟩
    refine m_possible v1 v2 C1.1 M1.1 (fun u => (u ⟨Or.inr (by rw [e1]; exact ti_n hc (by omega)), by rw [e2]; exact ti_n hi (by omega)⟩).elim) (fun c' i' hc' hi' e1' e2' h2 f2 => ⟨_, rfl, f2.1.sk C1.1, fun _ => mq f2 fo C1 M1 K (by omega), fun u => (u ?_).elim⟩) (fun i' hi' e1' e2' => absurd (e1.symm.trans e1') (m1 c (by omega)))
    rw [nE e1 e1' (by omega) (by omega), nE e2 e2' (by omega) (by omega)]
  · have C1 := C.pl f1 s1 p1 k1
    have M1 := q_m M f1 (fun x k => aPl_q)
    refine ⟨_, rfl, C1.1, hT _ ?_⟩
    refine m_possible v1 v2 C1.1 M1.1 (fun u => (u ⟨Or.inl e1, by rw [e2]; exact ti_n hi (by omega)⟩).elim) (fun c' i' hc' hi' e1' e2' => absurd (e1'.symm.trans e1) (m1 c' (by omega))) (fun i' hi' e1' e2' h2 f2 => ⟨_, rfl, f2.1.sk C1.1, fun _ => mq f2 fo C1 M1 K (by omega), fun u => (u ?_).elim⟩)
    rw [nE e2 e2' (by omega) (by omega)]
theorem op_isPossible (v1 v2 v3 v4 : Int32) (C : cIn h W I n t CH j) (M : mIn h W n t CH) (hT : ∀ p : Prop, p → T p) (K : inK P j) : mC G kX11_isPossible (D + 30) b [.inr (some 8), .inl v1, .inl v2, .inl v3, .inl v4] h (opR G (D + 30) kX12_isPossible [.inr (some 47), .inl v1, .inl v2, .inl v3, .inl v4] T P Q) := by
  have KK : P h := K h W I n t CH j C M (by omega)
  have hn8 := C.2.1.1.1.2.1
  have hl12 := C.2.1.1.2.2.2.2.2.2.1.2.1
  have fo : ∀ x k, aFo x k → mQ x k := fun x k z => by unfold aFo at z; unfold mQ; omega
  have okk : ∀ c i x y, c < wn W → i < wl W → x < 32 → y < 32 → v1 = nI c → v2 = nI i → v3 = nI x → v4 = nI y → ((0 ≤ v1.toInt ∧ v1.toInt < wn W) ∧ (0 ≤ v2.toInt ∧ v2.toInt < wl W) ∧ ¬ f_X11_inGrid v3 v4 = 0) := by
    intro c i x y hc hi hx hy e1 e2 e3 e4
    subst e1; subst e2; subst e3; subst e4
    exact ⟨ti_n hc (by omega), ti_n hi (by omega), gi_n x hx y hy⟩
  refine c11_isPossible v1 v2 v3 v4 C.1 C.2.1 C.2.2.2.2.2.2.1 (fun u => ⟨_, rfl, C.1, hT _ ?_⟩) (fun c i x y hc hi hx hy e1 e2 e3 e4 h1 f1 s1 p1 k1 => ?_)
  · exact m_isPossible v1 v2 v3 v4 C.1 M.1 (fun _ => ⟨_, rfl, C.1, fun _ => KK, fun w => absurd rfl w⟩) (fun c i x y hc hi hx hy e1 e2 e3 e4 => (u (okk c i x y hc hi hx hy e1 e2 e3 e4)).elim)
  · have C1 := C.pl f1 s1 p1 k1
    have M1 := q_m M f1 (fun x k => aPl_q)
    refine ⟨_, rfl, C1.1, hT _ ?_⟩
    refine m_isPossible v1 v2 v3 v4 C1.1 M1.1 (fun u => (u (okk c i x y hc hi hx hy e1 e2 e3 e4)).elim) (fun c' i' x' y' hc' hi' hx' hy' e1' e2' e3' e4' h2 f2 => ⟨_, rfl, f2.1.sk C1.1, fun _ => mq f2 fo C1 M1 K (by omega), fun u => (u ?_).elim⟩)
    rw [nE e1 e1' (by omega) (by omega), nE e2 e2' (by omega) (by omega), nE e3 e3' (by omega) (by omega), nE e4 e4' (by omega) (by omega)]
end
