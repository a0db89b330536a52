/-! a sounder is told -/
theorem fcF_U {U U' : aSo} {C : aCo} {s x y hr wi : Nat} (e : U' s = U s) : fcF U' C s x y hr wi = fcF U C s x y hr wi := by
  unfold fcF
  rw [e]
theorem lvN_U {L : aLw} {U U' : aSo} {C : aCo} {s x y hr wi : Nat} (e : U' s = U s) : lvN L U' C s x y hr wi = lvN L U C s x y hr wi := by
  unfold lvN lvA
  rw [fcF_U e]
theorem hdB_U {L : aLw} {U U' : aSo} {C : aCo} {l : aLi} {t : aNt} {x y m : Nat} (ok : okNt m t) (e : ∀ i, i < m → U' i = U i) : hdB L U' C l t x y = hdB L U C l t x y := by
  unfold hdB
  by_cases ht : t.1 = true
  · rw [if_pos ht, if_pos ht]
  · rw [if_neg ht, if_neg ht, lvN_U (e _ (ok.2 (by simpa using ht)).1)]
theorem wrC_U {L : aLw} {U U' : aSo} {C : aCo} {l : aLi} {x y m j : Nat} (ok : okLi m l) (e : ∀ i, i < m → U' i = U i) (hj : j ≤ jN l) : wrC L U' C l x y j = wrC L U C l x y j := by
  unfold wrC
  exact cnt_cong j (fun k hk => by rw [hdB_U (ok.2.2.2.2.2.2 k (by omega)) e])
theorem okLi_m {m m' : Nat} {l : aLi} (h : m ≤ m') (ok : okLi m l) : okLi m' l := by
  obtain ⟨a1, a2, a3, a4, a5, a6, a7⟩ := ok
  refine ⟨a1, a2, a3, a4, a5, a6, fun k hk => ⟨(a7 k hk).1, fun q => ?_⟩⟩
  have := (a7 k hk).2 q
  omega
theorem wSou_U {W : aW} {q : Nat × Nat × Nat × Nat} {i : Nat} (h : i < wm W) : wU (wSou W q) i = wU W i := if_neg (by omega)
theorem wSou_O {W : aW} {q : Nat × Nat × Nat × Nat} {c i k : Nat} (ok : okLi (wm W) (wJ W i)) : wO (wSou W q) c i k = wO W c i k := by
  show owK (wL W) (wU (wSou W q)) (wC W c) (wJ W i) k = owK (wL W) (wU W) (wC W c) (wJ W i) k
  unfold owK owC
  rw [wrC_U ok (fun i hi => wSou_U hi) (Nat.le_refl _)]
/-- alike for all that is asked of the log -/
def wEq (W W' : aW) : Prop := W'.1 = W.1 ∧ wl W' = wl W ∧ wJ W' = wJ W ∧ wB W' = wB W ∧ ws W' = ws W ∧ ∀ c i k, i < wl W → wO W' c i k = wO W c i k
theorem wSou_eq {W : aW} {q : Nat × Nat × Nat × Nat} (ok : ∀ i, i < wl W → okLi (wm W) (wJ W i)) : wEq W (wSou W q) := ⟨rfl, rfl, rfl, rfl, rfl, fun c i k hi => wSou_O (ok i hi)⟩
theorem wEq.F {W W' : aW} (e : wEq W W') {c i : Nat} (hi : i < wl W) (k : Nat) : wF W' c i k = wF W c i k := by
  obtain ⟨-, -, e3, e4, -, e6⟩ := e
  unfold wF
  rw [e4]
  exact foV_cg i (fun j hj k => e6 c j k (by omega)) (fun j hj => by rw [e3]; exact ⟨rfl, rfl, rfl⟩) k
theorem wEq.E {W W' : aW} (e : wEq W W') {c i : Nat} (hi : i < wl W) (k : Nat) : wE W' c i k = wE W c i k := by
  obtain ⟨-, e2, e3, e4, -, e6⟩ := e
  unfold wE
  rw [e2, e3]
  exact beV_cg _ (by omega) (fun j hj k => e6 c j k hj) k
theorem wEq.T {W W' : aW} (e : wEq W W') {c i : Nat} (hi : i < wl W) (k : Nat) : thB W' c i k = thB W c i k := by
  unfold thB
  rw [e.F hi, e.E hi, e.2.2.2.2.1, e.2.2.2.2.2 c i k hi]
theorem wEq.fit {W W' : aW} (e : wEq W W') (c : Nat) : wFit W' c = wFit W c := by
  unfold wFit
  rw [e.2.1, e.2.2.2.2.1]
  by_cases z : wl W = 0
  · rw [decide_eq_true (Or.inl z), decide_eq_true (Or.inl z)]
  · have : wF W' c (wl W - 1) = wF W c (wl W - 1) := funext (e.F (by omega))
    rw [this]
theorem cSt.sou {h : mH} {W : aW} {I : Nat → Nat} {v1 v2 v3 v4 : Int32} {q : Nat × Nat × Nat × Nat} (st : cSt h W I) (h6 : wm W < 6) (e1 : v1 = nI q.1) (e2 : v2 = nI q.2.1) (e3 : v3 = nI q.2.2.1) (e4 : v4 = nI q.2.2.2) (ok : q.1 < 32 ∧ q.2.1 < 32 ∧ q.2.2.1 < 4 ∧ q.2.2.2 < 100) : cSt (hSoX h (wm W) v1 v2 v3 v4) (wSou W q) I := by
  obtain ⟨⟨h1, h2, h3, h4, h5, h6', h7, h8, h9, h10, h11⟩, s2, s3, s4⟩ := st
  have f : mFr2 (fun x k => ((12 ≤ x ∧ x ≤ 15) ∧ k = wm W) ∨ (x = 11 ∧ k = 4)) h (hSoX h (wm W) v1 v2 v3 v4) := by
    unfold hSoX
    have sI : ∀ hh a v, 12 ≤ a ∧ a ≤ 15 → mFr2 (fun x k => ((12 ≤ x ∧ x ≤ 15) ∧ k = wm W) ∨ (x = 11 ∧ k = 4)) hh (mSI hh a (wm W) v) := fun hh a v z => mFr2.SI (Or.inl ⟨z, rfl⟩)
    exact ((((sI _ _ _ (by omega)).tr (sI _ _ _ (by omega))).tr (sI _ _ _ (by omega))).tr (sI _ _ _ (by omega))).tr (mFr2.SI (Or.inr ⟨rfl, rfl⟩))
  have hi : ∀ x k, (x < 11 ∨ 15 < x) → mI (hSoX h (wm W) v1 v2 v3 v4) x k = mI h x k := fun x k z => f.2 _ _ (fun t => by omega)
  have okL : ∀ i, i < wl W → okLi (wm W) (wJ W i) := fun i hi => (h7.2.2 i hi).2
  have we : wEq W (wSou W q) := wSou_eq okL
  refine ⟨⟨⟨?_, h1.2.1, fun c hc => ⟨(h1.2.2 c hc).1, ?_⟩⟩, fun c hc => ⟨(h2 c hc).1, ?_⟩, h3, ⟨?_, by show wm W + 1 ≤ 6; omega, fun i hi2 => ?_⟩, ?_, h6', ⟨?_, h7.2.1, fun i hi2 => ⟨?_, okLi_m (Nat.le_succ _) (h7.2.2 i hi2).2⟩⟩, ⟨?_, h8.2⟩, ?_, h10.kp f.1, ?_⟩, fun c hc => ?_, fun v r tv hv q1 q2 => ?_, s4.kp f.1⟩
  · rw [hi _ _ (by omega)]; exact h1.1
  · have := (h2 c hc).1
    exact cCo.eq (h := h) (h' := hSoX h (wm W) v1 v2 v3 v4) rfl (fun j k _ => hi _ _ (by omega)) (h1.2.2 c hc).2
  · have := (h2 c hc).1
    rw [hi _ _ (by omega)]; exact (h2 c hc).2
  · exact mI_SI_s
  · by_cases e : i = wm W
    · subst e
      have eq : wU (wSou W q) (wm W) = q := if_pos rfl
      unfold okSo1
      rw [eq]
      refine ⟨⟨?_, ?_, ?_, ?_⟩, ok⟩
      · unfold hSoX; rw [mI_SI_a (by omega), mI_SI_a (by omega), mI_SI_a (by omega), mI_SI_a (by omega), mI_SI_s]; exact e1
      · unfold hSoX; rw [mI_SI_a (by omega), mI_SI_a (by omega), mI_SI_a (by omega), mI_SI_s]; exact e2
      · unfold hSoX; rw [mI_SI_a (by omega), mI_SI_a (by omega), mI_SI_s]; exact e3
      · unfold hSoX; rw [mI_SI_a (by omega), mI_SI_s]; exact e4
    · have hi3 : i < wm W := by have : i < wm W + 1 := hi2; omega
      have eq : wU (wSou W q) i = wU W i := if_neg e
      unfold okSo1
      rw [eq, f.2 _ _ (fun t => by omega), f.2 _ _ (fun t => by omega), f.2 _ _ (fun t => by omega), f.2 _ _ (fun t => by omega)]
      exact h4.2.2 i hi3
  · exact lwX.fr f (fun a k q z => by omega) h5
  · rw [hi _ _ (by omega)]; exact h7.1
  · obtain ⟨lid, r1, t6, g93, g0, g1, g2, g3, g4, g5, g6⟩ := (h7.2.2 i hi2).1
    have nl : ∀ k, mI (hSoX h (wm W) v1 v2 v3 v4) lid k = mI h lid k := fun k => hi _ _ (by omega)
    refine ⟨lid, r1, t6, g93, by rw [nl]; exact g0, by rw [nl]; exact g1, by rw [nl]; exact g2, by rw [nl]; exact g3, by rw [nl]; exact g4, by rw [nl]; exact g5, fun k hk => ?_⟩
    obtain ⟨v, u1, u2, u3, u4, u5, u6, u7⟩ := g6 k hk
    have nv : ∀ k, mI (hSoX h (wm W) v1 v2 v3 v4) v k = mI h v k := fun k => hi _ _ (by omega)
    exact ⟨v, u1, u2, u3, by rw [nv]; exact u4, by rw [nv]; exact u5, by rw [nv]; exact u6, by rw [nv]; exact u7⟩
  · rw [hi _ _ (by omega)]; exact h8.1
  · obtain ⟨⟨q1, q2, q3⟩, q4⟩ := h9
    refine ⟨⟨?_, ?_, fun x hx => ?_⟩, q4⟩
    · rw [hi _ _ (by omega)]; exact q1
    · rw [hi _ _ (by omega)]; exact q2
    · rw [hi _ _ (by omega)]; exact q3 x hx
  · intro i lid k v hi2 hl hk hv c y hc hy x hx
    have hi3 : i < wl W := hi2
    have hk3 : k < jN (wJ W i) := hk
    obtain ⟨t6, -⟩ := s4.1 _ _ hl
    obtain ⟨t8, v93⟩ := s4.2 _ _ _ t6 hv
    show bt (mI (hSoX h (wm W) v1 v2 v3 v4) (v + 2) (c * 32 + y)) x = (bt (mI (hSoX h (wm W) v1 v2 v3 v4) (v + 1) (c * 32 + y)) x && hdB (wL W) (wU (wSou W q)) (wC W c) (wJ W i) (jT (wJ W i) k) x y)
    rw [hi _ _ (by omega), hi _ _ (by omega), hdB_U ((okL i hi3).2.2.2.2.2.2 k hk3) (fun i hi => wSou_U hi)]
    exact h11 i lid k v hi3 hl hk3 hv c y hc hy x hx
  · have hc' : c < wn W := hc
    have hIc := (h2 c hc').1
    obtain ⟨ld, nd, r⟩ := s2 c hc'
    have r' := r.eq (h' := hSoX h (wm W) v1 v2 v3 v4) (fun j k _ => hi _ _ (by omega))
    have hl := r.2.2.1
    have hF : ∀ i, i + 1 < ld → ∀ k, wF (wSou W q) c i k = wF W c i k := fun i hi k => we.F (by omega) k
    have hP : ∀ i, i + 1 = ld → ∀ x y, pV (wSou W q) c i nd x y = pV W c i nd x y := fun i hi x y => by
      have e : prV (wO (wSou W q) c) (wJ W) (wB W) i (32 * y + x) = prV (wO W c) (wJ W) (wB W) i (32 * y + x) := prV_cg i (fun j hj k => we.2.2.2.2.2 c j k (by omega)) (fun j hj => ⟨rfl, rfl, rfl⟩) _
      show sm (prV (wO (wSou W q) c) (wJ W) (wB W) i (32 * y + x)) (if coLand (wC W c) x y then FARn else wrC (wL W) (wU (wSou W q)) (wC W c) (wJ W i) x y nd) = _
      rw [e, wrC_U (okL i (by omega)) (fun i hi => wSou_U hi) (r.2.2.2.1 i hi)]; rfl
    exact ⟨ld, nd, rch.cg (W := W) (W' := wSou W q) rfl hl hF (fun i hi => ⟨r.2.2.2.1 i hi, hP i hi⟩) r'⟩
  · have := s3 v r tv hv q1 q2
    rw [hi _ _ (by omega), hi _ _ (by omega)]; exact this
theorem mw_sou {h : mH} {W : aW} {v1 v2 v3 v4 : Int32} {q : Nat × Nat × Nat × Nat} (hW : mWo h W) (h6 : wm W < 6) (e1 : v1 = nI q.1) (e2 : v2 = nI q.2.1) (e3 : v3 = nI q.2.2.1) (e4 : v4 = nI q.2.2.2) (ok : q.1 < 32 ∧ q.2.1 < 32 ∧ q.2.2.1 < 4 ∧ q.2.2.2 < 100) : mWo (hSoM h (wm W) v1 v2 v3 v4) (wSou W q) := by
  obtain ⟨w1, w2, w3, w4, ⟨w5a, w5b, w5c⟩, w6, w7, w8⟩ := hW
  have f : mFr2 (fun x k => ((53 ≤ x ∧ x ≤ 56) ∧ k = wm W) ∨ (x = 47 ∧ k = 6)) h (hSoM h (wm W) v1 v2 v3 v4) := by
    unfold hSoM
    have sI : ∀ hh a v, 53 ≤ a ∧ a ≤ 56 → mFr2 (fun x k => ((53 ≤ x ∧ x ≤ 56) ∧ k = wm W) ∨ (x = 47 ∧ k = 6)) hh (mSI hh a (wm W) v) := fun hh a v z => mFr2.SI (Or.inl ⟨z, rfl⟩)
    exact ((((sI _ _ _ (by omega)).tr (sI _ _ _ (by omega))).tr (sI _ _ _ (by omega))).tr (sI _ _ _ (by omega))).tr (mFr2.SI (Or.inr ⟨rfl, rfl⟩))
  refine ⟨mCh.fr f (fun a k q1 q2 z => by omega) (fun z => by omega) w1, ⟨mI_SI_s, by show wm W + 1 ≤ 6; omega, fun i hi2 => ?_⟩, lwM.fr f (fun a k q z => by omega) w3, w4, ⟨by rw [f.2 _ _ (fun z => by omega)]; exact w5a, w5b, fun i hi => ⟨liM.fr f (fun a k q1 q2 z => by omega) (w5c i hi).1, okLi_m (Nat.le_succ _) (w5c i hi).2⟩⟩, ?_, by rw [f.2 _ _ (fun z => by omega)]; exact w7, w8⟩
  · by_cases e : i = wm W
    · subst e
      have eq : wU (wSou W q) (wm W) = q := if_pos rfl
      unfold okSo1
      rw [eq]
      refine ⟨⟨?_, ?_, ?_, ?_⟩, ok⟩
      · unfold hSoM; rw [mI_SI_a (by omega), mI_SI_a (by omega), mI_SI_a (by omega), mI_SI_a (by omega), mI_SI_s]; exact e1
      · unfold hSoM; rw [mI_SI_a (by omega), mI_SI_a (by omega), mI_SI_a (by omega), mI_SI_s]; exact e2
      · unfold hSoM; rw [mI_SI_a (by omega), mI_SI_a (by omega), mI_SI_s]; exact e3
      · unfold hSoM; rw [mI_SI_a (by omega), mI_SI_s]; exact e4
    · have hi3 : i < wm W := by have : i < wm W + 1 := hi2; omega
      have eq : wU (wSou W q) i = wU W i := if_neg e
      unfold okSo1
      rw [eq, f.2 _ _ (fun t => by omega), f.2 _ _ (fun t => by omega), f.2 _ _ (fun t => by omega), f.2 _ _ (fun t => by omega)]
      exact w2.2.2 i hi3
  · obtain ⟨⟨b1, b2, b3, b4⟩, o⟩ := w6
    exact ⟨⟨by rw [f.2 _ _ (fun z => by omega)]; exact b1, by rw [f.2 _ _ (fun z => by omega)]; exact b2, by rw [f.2 _ _ (fun z => by omega)]; exact b3, by rw [f.2 _ _ (fun z => by omega)]; exact b4⟩, o⟩
def soQ (v1 v2 v3 v4 : Int32) : Nat × Nat × Nat × Nat := (v1.toNatClampNeg, v2.toNatClampNeg, v3.toNatClampNeg, v4.toNatClampNeg)
theorem okSo_q {v1 v2 v3 v4 : Int32} (ok : okSo v1 v2 v3 v4) : (v1 = nI (soQ v1 v2 v3 v4).1 ∧ v2 = nI (soQ v1 v2 v3 v4).2.1 ∧ v3 = nI (soQ v1 v2 v3 v4).2.2.1 ∧ v4 = nI (soQ v1 v2 v3 v4).2.2.2) ∧ (soQ v1 v2 v3 v4).1 < 32 ∧ (soQ v1 v2 v3 v4).2.1 < 32 ∧ (soQ v1 v2 v3 v4).2.2.1 < 4 ∧ (soQ v1 v2 v3 v4).2.2.2 < 100 := by
  obtain ⟨o1, o2, o3⟩ := ok
  obtain ⟨q1, q2, h1, h2, e1, e2⟩ := grid_ex o1
  obtain ⟨q3, h3, e3⟩ := wi_ex (m := 3) (by omega) o2
  obtain ⟨q4, h4, e4⟩ := wi_ex (m := 99) (by omega) o3
  have c1 : v1.toNatClampNeg = q1 := by rw [e1]; exact nI_clamp (by omega)
  have c2 : v2.toNatClampNeg = q2 := by rw [e2]; exact nI_clamp (by omega)
  have c3 : v3.toNatClampNeg = q3 := by rw [e3]; exact nI_clamp (by omega)
  have c4 : v4.toNatClampNeg = q4 := by rw [e4]; exact nI_clamp (by omega)
  unfold soQ
  dsimp only
  rw [c1, c2, c3, c4]
  exact ⟨⟨e1, e2, e3, e4⟩, h1, h2, by omega, by omega⟩
