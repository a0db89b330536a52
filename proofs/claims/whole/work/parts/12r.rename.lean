/-! ids by other names: a store may be named anew, if the addresses are told by the new names -/
def gRn (s : Nat → Nat) (G : mG) : mG := (G.1, G.2.1, G.2.2.1, fun k => gC G (s k), G.2.2.2.2.1, G.2.2.2.2.2.1, G.2.2.2.2.2.2)
def hRn (s t : Nat → Nat) (h : mH) : mH := (h.1, fun a => mT h (s a), fun a => mL h (s a), fun a k => mI h (s a) k, fun a k => (mR h (s a) k).map t)
/-- s and t name the first N ids in two ways; s k is the old name of the new name k -/
def okRn (s t : Nat → Nat) (N : Nat) : Prop := (∀ k, s (t k) = k) ∧ (∀ k, t (s k) = k) ∧ (∀ k, k < 8 → s k = k) ∧ ∀ k, N ≤ k → s k = k
theorem okRn.symm {s t : Nat → Nat} {N : Nat} (o : okRn s t N) : okRn t s N := by
  obtain ⟨o1, o2, o3, o4⟩ := o
  refine ⟨o2, o1, fun k hk => ?_, fun k hk => ?_⟩
  · have := o2 k; rw [o3 k hk] at this; exact this
  · have := o2 k; rw [o4 k hk] at this; exact this
theorem okRn.inn {s t : Nat → Nat} {N M k : Nat} (o : okRn s t N) (hM : N ≤ M) (h1 : 8 ≤ k) (h2 : k < M) : 8 ≤ s k ∧ s k < M := by
  obtain ⟨o1, o2, o3, o4⟩ := o
  have inj : s (s k) = s k → s k = k := fun e => by
    have := congrArg t e
    rw [o2, o2] at this; exact this
  refine ⟨Nat.le_of_not_lt (fun z => ?_), Nat.lt_of_not_le (fun z => ?_)⟩
  · have := inj (o3 _ z); omega
  · have := inj (o4 _ (by omega)); omega
theorem gRn_inv {s t : Nat → Nat} {N : Nat} (o : okRn s t N) (G : mG) : gRn t (gRn s G) = G := by
  have e : (fun k => gC (gRn s G) (t k)) = gC G := by
    funext k
    show gC G (s (t k)) = gC G k
    rw [o.1]
  unfold gRn at e ⊢
  rw [e]
  rfl
theorem mWs_in {G : mG} {h : mH} {i : Nat} {q : Nat × va_E} (hq : (mWs G h)[i]? = some q) : i < mN h - 8 ∧ q = (mRho G (i + 8), mCell G h (i + 8)) := by
  unfold mWs at hq
  rw [List.getElem?_map] at hq
  cases hr : (List.range (mN h - 8))[i]? with
  | none => rw [hr] at hq; cases hq
  | some j =>
    rw [hr] at hq
    cases hq
    obtain ⟨h1, h2⟩ := List.getElem?_eq_some_iff.mp hr
    simp at h1 h2
    subst h2
    exact ⟨h1, rfl⟩
theorem cell_rn {s t : Nat → Nat} {N : Nat} (o : okRn s t N) (G : mG) (h : mH) (a : Nat) : mCell (gRn s G) (hRn s t h) a = mCell G h (s a) := by
  have er : ∀ k, (mR (hRn s t h) a k).map (mRho (gRn s G)) = (mR h (s a) k).map (mRho G) := by
    intro k
    show ((mR h (s a) k).map t).map (mRho (gRn s G)) = _
    cases mR h (s a) k with
    | none => rfl
    | some x =>
      show some (gC G (s (t x))) = some (gC G x)
      rw [o.1]
  have fs : ∀ ci, mFs (gRn s G) (hRn s t h) a ci = mFs G h (s a) ci := by
    intro ci
    unfold mFs
    apply List.map_congr_left
    intro k _
    rw [er k]
    rfl
  have ef : (fun j => (mR (hRn s t h) a j).map (mRho (gRn s G))) = fun j => (mR h (s a) j).map (mRho G) := funext er
  unfold mCell
  rw [fs, ef]
  rfl
theorem mRel.rn {G : mG} {s t : Nat → Nat} {N : Nat} {h : mH} {H : Heap} (o : okRn s t N) (hN : N ≤ mN h) (r : mRel G h H) : mRel (gRn s G) (hRn s t h) H := by
  obtain ⟨r1, r2, r3, r4, g1, g2, g3⟩ := r
  have inn : ∀ k, 8 ≤ k → k < mN h → 8 ≤ s k ∧ s k < mN h := fun k h1 h2 => o.inn hN h1 h2
  refine ⟨r1, r2, fun k q hq => ?_, fun a ha => ?_, fun k hk => ?_, fun k h1 h2 => ?_, fun j k h1 h2 h3 h4 e => ?_⟩
  · obtain ⟨k1, k2⟩ := mWs_in hq
    have k1' : k < mN h - 8 := k1
    obtain ⟨i1, i2⟩ := inn (k + 8) (by omega) (by omega)
    have w := mWs_at (G := G) i1 i2
    have e : q = (mRho G (s (k + 8)), mCell G h (s (k + 8))) := by
      rw [k2, cell_rn o]; rfl
    rw [e]
    exact r3 _ _ w
  · have ha' : mT h (s a) ≠ 0 := ha
    obtain ⟨q1, q2⟩ := r4 _ ha'
    refine ⟨Nat.le_of_not_lt (fun z => ?_), Nat.lt_of_not_le (fun z => ?_)⟩
    · rw [o.2.2.1 a z] at q1; omega
    · have z' : mN h ≤ a := z
      rw [o.2.2.2 a (by omega)] at q2; omega
  · have hk' : mN h ≤ k := hk
    show gC G (s k) = gB G + (k - 8)
    rw [o.2.2.2 k (by omega)]
    exact g1 k hk'
  · have h2' : k < mN h := h2
    obtain ⟨i1, i2⟩ := inn k h1 h2'
    exact g2 _ i1 i2
  · obtain ⟨j1, j2⟩ := inn j h1 h2
    obtain ⟨k1, k2⟩ := inn k h3 h4
    have := g3 _ _ j1 j2 k1 k2 e
    have e2 := congrArg t this
    rw [o.2.1, o.2.1] at e2
    exact e2
theorem mRel.big {G : mG} {s t : Nat → Nat} {N : Nat} {h : mH} {H : Heap} (o : okRn s t (N + 1)) (h8 : 8 ≤ N) (hne : s N ≠ N) (gid : ∀ k, 8 ≤ k → gC G k = gB G + (k - 8)) (r : mRel (gRn s G) h H) : N + 1 ≤ mN h := by
  refine Classical.byContradiction (fun z => hne ?_)
  have e : gC G (s N) = gB G + (N - 8) := r.2.2.2.2.1 N (by omega)
  obtain ⟨i1, -⟩ := o.inn (Nat.le_refl _) h8 (Nat.lt_succ_self N)
  rw [gid _ i1] at e
  omega
theorem mK.rn {G : mG} {s t : Nat → Nat} {N : Nat} {S : State} (o : okRn s t N) (K : mK G S) : mK (gRn s G) S := by
  have e0 : gC (gRn s G) 0 = gC G 0 := congrArg (gC G) (o.2.2.1 0 (by omega))
  have e1 : gC (gRn s G) 1 = gC G 1 := congrArg (gC G) (o.2.2.1 1 (by omega))
  have e2 : gC (gRn s G) 2 = gC G 2 := congrArg (gC G) (o.2.2.1 2 (by omega))
  have e3 : gC (gRn s G) 3 = gC G 3 := congrArg (gC G) (o.2.2.1 3 (by omega))
  have e4 : gC (gRn s G) 4 = gC G 4 := congrArg (gC G) (o.2.2.1 4 (by omega))
  unfold mK
  rw [e0, e1, e2, e3, e4]
  exact K
/-- go on with other names -/
theorem mw_rn {G : mG} {s t : Nat → Nat} {N : Nat} (o : okRn s t (N + 1)) (h8 : 8 ≤ N) (hne : s N ≠ N) (gid : ∀ k, 8 ≤ k → gC G k = gB G + (k - 8)) {k : mM} {d : Nat} {b : Nat × Nat} {pc : Nat} {ls : List (Option mV)} (ls' : List (Option mV)) {h : mH} (hN : N + 1 ≤ mN h)
    (hl : ∀ (i : Nat) (v : mV), ls'[i]? = some (some v) → ∃ w, ls[i]? = some (some w) ∧ mTr (gRn s G) v = mTr G w)
    (kk : mW (gRn s G) k d b pc ls' [] (hRn s t h) (fun r _ => r = some (.inl 1))) : mW G k d b pc ls [] h (fun r _ => r = some (.inl 1)) := by
  intro p e S m args below meth c R Z C hQ H locs cells slots LS hA
  obtain ⟨c1, c2, c3, c4, c5, c6, c7, c8, hK⟩ := C
  obtain ⟨a1, a2, a3, a4, a5, a6⟩ := hA
  refine kk p e S m args below meth c R Z ⟨c1, c2, c3, c4, c5, c6, c7, c8, hK.rn o⟩ ?_ H locs cells slots LS ⟨a1, a2.rn o hN, a3, a4, a5, fun i v hv => ?_⟩
  · intro pc2 LS2 H2 locs2 cells2 slots2 r h2 hk hq hR hS q1 q2
    have hN2 := hR.big o h8 hne gid
    have back := hR.rn o.symm hN2
    rw [gRn_inv o] at back
    subst hq
    exact hQ pc2 LS2 H2 locs2 cells2 slots2 _ (hRn t s h2) hk rfl back hS q1 q2
  · obtain ⟨w, w1, w2⟩ := hl i v hv
    rw [w2]
    exact a6 i w w1
