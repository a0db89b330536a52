/-! back, wrong, box, sounder -/
def wBS (W : aW) (B : aBx) (s : Nat) : aW := (W.1, W.2.1, W.2.2.1, W.2.2.2.1, (B, s))
def wBack (W : aW) : aW := (W.1, W.2.1, W.2.2.1, (wl W - 1, wJ W), W.2.2.2.2)
def wSou (W : aW) (q : Nat × Nat × Nat × Nat) : aW := (W.1, (wm W + 1, fun i => if i = wm W then q else wU W i), W.2.2)
theorem cWo.bs {h h' : mH} {W : aW} {I : Nat → Nat} {B : aBx} {s : Nat} (f : mFr2 (fun x k => x = 28 ∧ 2 ≤ k ∧ k ≤ 5) h h') (e2 : mI h' 28 2 = nI s) (hs : s ≤ 3) (eb : bxX h' B) (hW : cWo h W I) : cWo h' (wBS W B s) I := by
  obtain ⟨h1, h2, h3, h4, h5, h6, h7, h8, h9, h10, h11⟩ := hW
  have hi : ∀ x k, x ≠ 28 → mI h' x k = mI h x k := fun x k q => f.2 _ _ (fun z => q z.1)
  refine ⟨⟨?_, h1.2.1, fun c hc => ⟨by rw [f.1.2.2.2]; exact (h1.2.2 c hc).1, ?_⟩⟩, fun c hc => ⟨(h2 c hc).1, ?_⟩, h3, ?_, ?_, h6, ⟨?_, h7.2.1, fun i hi2 => ⟨?_, (h7.2.2 i hi2).2⟩⟩, ⟨e2, hs⟩, eb, h10.kp f.1, ?_⟩
  · rw [hi _ _ (by omega)]; exact h1.1
  · have := (h2 c hc).1
    exact cCo.eq (by rw [f.1.2.1]) (fun j k _ => hi _ _ (by omega)) (h1.2.2 c hc).2
  · have := (h2 c hc).1
    rw [hi _ _ (by omega)]; exact (h2 c hc).2
  · exact soX.fr f (fun a k q1 q2 z => by omega) (fun z => by omega) h4
  · exact lwX.fr f (fun a k q z => by omega) h5
  · rw [f.2 _ _ (fun z => by omega)]; exact h7.1
  · obtain ⟨lid, r1, t6, g93, g0, g1, g2, g3, g4, g5, g6⟩ := (h7.2.2 i hi2).1
    have nl : ∀ k, mI h' lid k = mI h lid k := fun k => hi _ _ (by omega)
    refine ⟨lid, by rw [f.1.2.2.2]; exact r1, by rw [f.1.2.1]; exact t6, g93, by rw [nl]; exact g0, by rw [nl]; exact g1, by rw [nl]; exact g2, by rw [nl]; exact g3, by rw [nl]; exact g4, by rw [nl]; exact g5, fun k hk => ?_⟩
    obtain ⟨v, v1, v2, v3, v4, v5, v6, v7⟩ := g6 k hk
    have nv : ∀ k, mI h' v k = mI h v k := fun k => hi _ _ (by omega)
    exact ⟨v, by rw [f.1.2.2.2]; exact v1, v2, by rw [f.1.2.1]; exact v3, by rw [nv]; exact v4, by rw [nv]; exact v5, by rw [nv]; exact v6, by rw [nv]; exact v7⟩
  · have kc : kcA h' W := kcA.fr f h7 (fun v j k _ hv _ z => by omega) h11
    exact kc
theorem kcZ.hi {A : Nat → Nat → Prop} {h h' : mH} {W : aW} (f : mFr2 A h h') (hA : ∀ x k, A x k → x < 93) (kz : kcZ h W) : kcZ h' W := by
  intro v r tv hv q1 q2
  rw [f.1.2.1] at tv
  rw [f.2 _ _ (fun z => by have := hA _ _ z; omega), f.2 _ _ (fun z => by have := hA _ _ z; omega)]
  exact kz v r tv hv q1 q2
def okB (v1 v2 v3 v4 : Int32) : aBx := (v1.toNatClampNeg, v2.toNatClampNeg, v3.toNatClampNeg, v4.toNatClampNeg)
section
variable {G : mG} {d : Nat} {b : Nat × Nat} {b1 b2 : Nat} {h : mH} {Q : Option mV → mH → Prop}
theorem c11_wrong (v1 : Int32) {W : aW} {I : Nat → Nat} (hS : mSk h) (st : cSt h W I) (K1 : f_X11_within v1 0 3 = 0 → Q (some (.inl 0)) h) (K2 : v1 = nI (ws W) → Q (some (.inl 1)) h)
    (K3 : ∀ n, n ≤ 3 → v1 = nI n → ∀ h', mFr2 (fun x k => 93 ≤ x ∨ (x = 28 ∧ k = 2) ∨ (x = 8 ∧ k = 7)) h h' → mI h' 8 7 = mI h 8 7 + 1 → cSt h' (wBS W (wB W) n) I → Q (some (.inl 1)) h') : mC G kX11_wrong (d + 1) b [.inr (some 8), .inl v1] h Q := by
  have es := st.1.2.2.2.2.2.2.2.1.1
  refine qX11_wrong v1 hS ⟨fun z => ⟨fun q => K2 (by rw [es] at q; exact q), fun q h1 e1 => ?_⟩, K1⟩
  obtain ⟨n, hn, en⟩ := wi_ex (m := 3) (by omega) z
  have f1 : mFr2 (fun x k => x = 28 ∧ k = 2) h h1 := by rw [e1]; exact mFr2.SI ⟨rfl, rfl⟩
  have w1 : cWo h1 (wBS W (wB W) n) I := by
    refine st.1.bs (f1.wk (fun x k z => by omega)) (by rw [e1, mI_SI_s]; exact en) hn ?_
    obtain ⟨⟨q1, q2, q3⟩, q4⟩ := st.1.2.2.2.2.2.2.2.2.1
    exact ⟨⟨by rw [f1.2 _ _ (fun z => by omega)]; exact q1, by rw [f1.2 _ _ (fun z => by omega)]; exact q2, fun x hx => by rw [f1.2 _ _ (fun z => by omega)]; exact q3 x hx⟩, q4⟩
  refine c0_restart (f1.1.sk hS) w1 (st.2.2.1.hi f1 (fun x k z => by omega)) (st.2.2.2.kp f1.1) (fun h2 f2 s2 => ⟨rfl, f2.1.sk (f1.1.sk hS), fun h3 e3 => ?_⟩)
  have f3 : mFr2 (fun x k => x = 8 ∧ k = 7) h2 h3 := by rw [e3]; exact mFr2.SI ⟨rfl, rfl⟩
  exact K3 n hn en h3 (((f1.wk (fun x k z => Or.inr (Or.inl z))).tr (f2.wk (fun x k z => Or.inl z))).tr (f3.wk (fun x k z => Or.inr (Or.inr z)))) (by rw [e3, mI_SI_s, f2.2 _ _ (by omega), f1.2 _ _ (by omega)]) (s2.lo f3 (fun x k z => ⟨by omega, by unfold wl0; omega⟩))
theorem okBo_b {v1 v2 v3 v4 : Int32} (ok : okBo v1 v2 v3 v4) : okBx (okB v1 v2 v3 v4) ∧ v1 = nI (okB v1 v2 v3 v4).1 ∧ v2 = nI (okB v1 v2 v3 v4).2.1 ∧ v3 = nI (okB v1 v2 v3 v4).2.2.1 ∧ v4 = nI (okB v1 v2 v3 v4).2.2.2 ∧ (okB v1 v2 v3 v4).1 ≤ (okB v1 v2 v3 v4).2.2.1 := by
  obtain ⟨o1, o2, o3, o4⟩ := ok
  obtain ⟨q1, q2, h1, h2, e1, e2⟩ := grid_ex o1
  obtain ⟨q3, q4, h3, h4, e3, e4⟩ := grid_ex o2
  have c1 : v1.toNatClampNeg = q1 := by rw [e1]; exact nI_clamp (by omega)
  have c2 : v2.toNatClampNeg = q2 := by rw [e2]; exact nI_clamp (by omega)
  have c3 : v3.toNatClampNeg = q3 := by rw [e3]; exact nI_clamp (by omega)
  have c4 : v4.toNatClampNeg = q4 := by rw [e4]; exact nI_clamp (by omega)
  have h5 : q1 ≤ q3 := by
    rw [e1, e3, nI_ltI (by omega) (by omega)] at o3; omega
  unfold okBx okB
  dsimp only
  rw [c1, c2, c3, c4]
  exact ⟨⟨h1, h2, h3, h4⟩, e1, e2, e3, e4, h5⟩
theorem c11_box (v1 v2 v3 v4 : Int32) {W : aW} {I : Nat → Nat} (hS : mSk h) (st : cSt h W I) (K1 : ¬ okBo v1 v2 v3 v4 → Q (some (.inl 0)) h)
    (K2 : okBo v1 v2 v3 v4 → ∀ h', mFr2 (fun x k => 93 ≤ x ∨ (x = 28 ∧ 3 ≤ k ∧ k ≤ 5) ∨ (x = 8 ∧ k = 7)) h h' → mI h' 8 7 = mI h 8 7 + 1 → cSt h' (wBS W (okB v1 v2 v3 v4) (ws W)) I → Q (some (.inl 1)) h') : mC G kX11_box (d + 1) b [.inr (some 8), .inl v1, .inl v2, .inl v3, .inl v4] h Q := by
  have es := st.1.2.2.2.2.2.2.2.1
  refine qX11_box v1 v2 v3 v4 hS ⟨fun z => K1 (fun u => u.1 z), fun o1 => ⟨fun z => K1 (fun u => u.2.1 z), fun o2 => ⟨fun z => K1 (fun u => u.2.2.1 z), fun o3 => ⟨fun o4 h1 e1 h2 e2 h3 e3 => ?_, fun z => K1 (fun u => z u.2.2.2)⟩⟩⟩⟩
  have ok : okBo v1 v2 v3 v4 := ⟨o1, o2, o3, o4⟩
  obtain ⟨⟨l1, l2, l3, l4⟩, ev1, ev2, ev3, ev4, hle⟩ := okBo_b ok
  have f3 : mFr2 (fun x k => x = 28 ∧ 3 ≤ k ∧ k ≤ 5) h h3 := by
    rw [e3, e2, e1]
    exact ((mFr2.SI (A := fun x k => x = 28 ∧ 3 ≤ k ∧ k ≤ 5) ⟨rfl, by omega⟩).tr (mFr2.SI ⟨rfl, by omega⟩)).tr (mFr2.SI ⟨rfl, by omega⟩)
  have w3 : cWo h3 (wBS W (okB v1 v2 v3 v4) (ws W)) I := by
    refine st.1.bs (f3.wk (fun x k z => by omega)) (by rw [f3.2 _ _ (fun z => by omega)]; exact es.1) es.2 ⟨⟨?_, ?_, fun x hx => ?_⟩, l1, l2, l3, l4⟩
    · rw [e3, mI_SI_k (by omega), e2, mI_SI_k (by omega), e1, mI_SI_s]; exact ev2
    · rw [e3, mI_SI_k (by omega), e2, mI_SI_s]; exact ev4
    · rw [e3, mI_SI_s]
      have := bt_span (a := (okB v1 v2 v3 v4).1) (b := (okB v1 v2 v3 v4).2.2.1) l1 l3 hx
      rw [← ev1, ← ev3] at this
      rw [this, decide_eq_decide]
      omega
  refine c0_restart (f3.1.sk hS) w3 (st.2.2.1.hi f3 (fun x k z => by omega)) (st.2.2.2.kp f3.1) (fun h4 f4 s4 => ⟨rfl, f4.1.sk (f3.1.sk hS), fun h5 e5 => ?_⟩)
  have f5 : mFr2 (fun x k => x = 8 ∧ k = 7) h4 h5 := by rw [e5]; exact mFr2.SI ⟨rfl, rfl⟩
  exact K2 ok h5 (((f3.wk (fun x k z => Or.inr (Or.inl z))).tr (f4.wk (fun x k z => Or.inl z))).tr (f5.wk (fun x k z => Or.inr (Or.inr z)))) (by rw [e5, mI_SI_s, f4.2 _ _ (by omega), f3.2 _ _ (by omega)]) (s4.lo f5 (fun x k z => ⟨by omega, by unfold wl0; omega⟩))
theorem mWo.bs {h' : mH} {W : aW} {B : aBx} {s : Nat} (f : mFr2 (fun x k => x = 47 ∧ 34 ≤ k ∧ k ≤ 38) h h') (e : mI h' 47 34 = nI s) (hs : s ≤ 3) (eb : bxM h' B) (hW : mWo h W) : mWo h' (wBS W B s) := by
  obtain ⟨w1, w2, w3, w4, w5, w6, w7, w8⟩ := hW
  exact ⟨mCh.fr f (fun a k q1 q2 z => by omega) (fun z => by omega) w1, soM.fr f (fun a k q1 q2 z => by omega) (fun z => by omega) w2, lwM.fr f (fun a k q z => by omega) w3, w4, lgM.fr f (fun a k q1 q2 z => by omega) (fun z => by omega) w5, eb, e, hs⟩
theorem mw_wrong {W : aW} {n : Nat} (hn : n ≤ 3) (hW : mWo h W) : mWo (mSI h 47 34 (nI n)) (wBS W (wB W) n) := by
  obtain ⟨⟨b1, b2, b3, b4⟩, o⟩ := hW.2.2.2.2.2.1
  exact mWo.bs (mFr2.SI ⟨rfl, by omega⟩) mI_SI_s hn ⟨⟨by rw [mI_SI_k (by omega)]; exact b1, by rw [mI_SI_k (by omega)]; exact b2, by rw [mI_SI_k (by omega)]; exact b3, by rw [mI_SI_k (by omega)]; exact b4⟩, o⟩ hW
theorem mw_box {W : aW} {v1 v2 v3 v4 : Int32} (ok : okBo v1 v2 v3 v4) (hW : mWo h W) : mWo (mSI (mSI (mSI (mSI h 47 35 v1) 47 36 v2) 47 37 v3) 47 38 v4) (wBS W (okB v1 v2 v3 v4) (ws W)) := by
  obtain ⟨l, ev1, ev2, ev3, ev4, hle⟩ := okBo_b ok
  refine mWo.bs (h := h) ?_ ?_ hW.2.2.2.2.2.2.2 ⟨⟨?_, ?_, ?_, ?_⟩, l⟩ hW
  · exact (((mFr2.SI (A := fun x k => x = 47 ∧ 34 ≤ k ∧ k ≤ 38) ⟨rfl, by omega⟩).tr (mFr2.SI ⟨rfl, by omega⟩)).tr (mFr2.SI ⟨rfl, by omega⟩)).tr (mFr2.SI ⟨rfl, by omega⟩)
  · rw [mI_SI_k (by omega), mI_SI_k (by omega), mI_SI_k (by omega), mI_SI_k (by omega)]; exact hW.2.2.2.2.2.2.1
  · rw [mI_SI_k (by omega), mI_SI_k (by omega), mI_SI_k (by omega), mI_SI_s]; exact ev1
  · rw [mI_SI_k (by omega), mI_SI_k (by omega), mI_SI_s]; exact ev2
  · rw [mI_SI_k (by omega), mI_SI_s]; exact ev3
  · rw [mI_SI_s]; exact ev4
theorem mw_back {W : aW} {n : Nat} (hn : wl W = n + 1) (hW : mWo h W) : mWo (mSI h 47 33 (nI n)) (wBack W) := by
  obtain ⟨w1, w2, w3, w4, ⟨w5a, w5b, w5c⟩, w6, w7, w8⟩ := hW
  have f : mFr2 (fun x k => x = 47 ∧ k = 33) h (mSI h 47 33 (nI n)) := mFr2.SI ⟨rfl, rfl⟩
  have en : wl (wBack W) = n := by show wl W - 1 = n; omega
  refine ⟨mCh.fr f (fun a k q1 q2 z => by omega) (fun z => by omega) w1, soM.fr f (fun a k q1 q2 z => by omega) (fun z => by omega) w2, lwM.fr f (fun a k q z => by omega) w3, w4, ⟨by rw [en, mI_SI_s], by rw [en]; omega, fun i hi => ?_⟩, ?_, ?_, w8⟩
  · rw [en] at hi
    exact ⟨liM.fr f (fun a k q1 q2 z => by omega) (w5c i (by omega)).1, (w5c i (by omega)).2⟩
  · obtain ⟨⟨b1, b2, b3, b4⟩, o⟩ := w6
    exact ⟨⟨by rw [mI_SI_k (by omega)]; exact b1, by rw [mI_SI_k (by omega)]; exact b2, by rw [mI_SI_k (by omega)]; exact b3, by rw [mI_SI_k (by omega)]; exact b4⟩, o⟩
  · rw [mI_SI_k (by omega)]; exact w7
theorem cWo.back {W : aW} {I : Nat → Nat} {n : Nat} (hn : wl W = n + 1) (hW : cWo h W I) : cWo (mSI h 28 1 (nI n)) (wBack W) I := by
  obtain ⟨h1, h2, h3, h4, h5, h6, h7, h8, h9, h10, h11⟩ := hW
  have f : mFr2 (fun x k => x = 28 ∧ k = 1) h (mSI h 28 1 (nI n)) := mFr2.SI ⟨rfl, rfl⟩
  have hi : ∀ x k, x ≠ 28 → mI (mSI h 28 1 (nI n)) x k = mI h x k := fun x k q => f.2 _ _ (fun z => q z.1)
  have en : wl (wBack W) = n := by show wl W - 1 = n; omega
  have n12 := h7.2.1
  refine ⟨⟨?_, h1.2.1, fun c hc => ⟨(h1.2.2 c hc).1, ?_⟩⟩, fun c hc => ⟨(h2 c hc).1, ?_⟩, h3, ?_, ?_, h6, ⟨?_, ?_, fun i hi2 => ?_⟩, ⟨?_, h8.2⟩, ?_, h10.kp f.1, ?_⟩
  · rw [hi _ _ (by omega)]; exact h1.1
  · have := (h2 c hc).1
    exact cCo.eq (h := h) (h' := mSI h 28 1 (nI n)) rfl (fun j k _ => hi _ _ (by omega)) (h1.2.2 c hc).2
  · have := (h2 c hc).1
    rw [hi _ _ (by omega)]; exact (h2 c hc).2
  · exact soX.fr f (fun a k q1 q2 z => by omega) (fun z => by omega) h4
  · exact lwX.fr f (fun a k q z => by omega) h5
  · rw [en, mI_SI_s]
  · rw [en]; omega
  · rw [en] at hi2
    obtain ⟨⟨lid, r1, t6, g93, g0, g1, g2, g3, g4, g5, g6⟩, okl⟩ := h7.2.2 i (by omega)
    have nl : ∀ k, mI (mSI h 28 1 (nI n)) lid k = mI h lid k := fun k => hi _ _ (by omega)
    refine ⟨⟨lid, r1, t6, g93, by rw [nl]; exact g0, by rw [nl]; exact g1, by rw [nl]; exact g2, by rw [nl]; exact g3, by rw [nl]; exact g4, by rw [nl]; exact g5, fun k hk => ?_⟩, okl⟩
    obtain ⟨v, v1, v2, v3, v4, v5, v6, v7⟩ := g6 k hk
    have nv : ∀ k, mI (mSI h 28 1 (nI n)) v k = mI h v k := fun k => hi _ _ (by omega)
    exact ⟨v, v1, v2, v3, by rw [nv]; exact v4, by rw [nv]; exact v5, by rw [nv]; exact v6, by rw [nv]; exact v7⟩
  · rw [mI_SI_k (by omega)]; exact h8.1
  · obtain ⟨⟨q1, q2, q3⟩, q4⟩ := h9
    refine ⟨⟨?_, ?_, fun x hx => ?_⟩, q4⟩
    · rw [mI_SI_k (by omega)]; exact q1
    · rw [mI_SI_k (by omega)]; exact q2
    · rw [mI_SI_k (by omega)]; exact q3 x hx
  · have kc : kcA (mSI h 28 1 (nI n)) W := kcA.fr f h7 (fun v j k _ hv _ z => by omega) h11
    intro i lid k v hi' hl hk hv c y hc hy
    rw [en] at hi'
    exact kc i lid k v (by omega) hl hk hv c y hc hy
def bkN (W : aW) (n : Nat) : Nat := if n = 0 then 0 else jN (wJ W (n - 1))
theorem bkN_s (W : aW) (i : Nat) : bkN W (i + 1) = jN (wJ W i) := if_neg (by omega)
set_option maxHeartbeats 1000000 in
theorem c11_back {W : aW} {I : Nat → Nat} (hS : mSk h) (st : cSt h W I) (K1 : wl W = 0 → Q (some (.inl (-1))) h)
    (K2 : ∀ n, wl W = n + 1 → ∀ h', mFr2 (fun x k => 93 ≤ x ∨ (x = 28 ∧ k = 1) ∨ (x = 8 ∧ k = 7)) h h' → mI h' 8 7 = mI h 8 7 + 1 → cSt h' (wBack W) I → Q (some (.inl (nI n))) h') : mC G kX11_back (d + 2) b [.inr (some 8)] h Q := by
  have e1 := st.1.2.2.2.2.2.2.1.1
  have hl12 := st.1.2.2.2.2.2.2.1.2.1
  refine qX11_back hS ⟨fun z h1 eh1 => ?_, fun z => K1 ?_⟩
  · have h0 : 0 < wl W := Nat.pos_of_ne_zero (fun e => z (by rw [e1, e]; rfl))
    obtain ⟨n, hn⟩ : ∃ n, wl W = n + 1 := ⟨wl W - 1, by omega⟩
    rw [e1, hn, show nI (n + 1) - 1 = nI n from nI_pred n] at eh1
    have en : wl (wBack W) = n := by show wl W - 1 = n; omega
    have f1 : mFr2 (fun x k => x = 28 ∧ k = 1) h h1 := by rw [eh1]; exact mFr2.SI ⟨rfl, rfl⟩
    have hS1 := f1.1.sk hS
    have w1 : cWo h1 (wBack W) I := by rw [eh1]; exact cWo.back hn st.1
    have e28 : mI h1 28 1 = nI n := by rw [eh1, mI_SI_s]
    have hn8 := st.1.1.2.1
    -- the loop
    have lp : ∀ (z2 : Option Nat), (n = 0 → z2 = none) → (∀ m, n = m + 1 → ∃ lid, z2 = some lid ∧ mR h1 29 m = some lid) → ∀ (Q2 : Option mV → mH → Prop), (∀ h', mFr2 (fun x k => 93 ≤ x) h1 h' → cSt h' (wBack W) I → Q2 none h') → mW G kX0_dropBeyond (d + 1) (0, 0) 7 [some (.inr (some 33)), some (.inr (some 28)), some (.inr z2), some (.inl 0)] [] h1 Q2 := by
      intro z2 hz0 hz1 Q2 KQ
      refine mloop (W := fun c h2 => mW G kX0_dropBeyond (d + 1) (0, 0) 7 [some (.inr (some 33)), some (.inr (some 28)), some (.inr z2), some (.inl (nI c))] [] h2 Q2)
        (P := fun c h2 => mFr2 (fun x k => 93 ≤ x) h1 h2 ∧ cWo h2 (wBack W) I ∧ kcZ h2 W ∧ (∀ c', c' < c → ∃ ld nd, rch h2 (I c') (wBack W) c' ld nd) ∧ ∀ c', c ≤ c' → c' < wn W → ∃ ld nd, rch h2 (I c') W c' ld nd) (wn W) ?_ ?_ 0 h1 (by omega) ⟨mFr2.rf, w1, st.2.2.1.hi f1 (fun x k z => by omega), fun c' z => by omega, fun c' _ hc' => ?_⟩
      · rintro c h2 hc ⟨f2, w2, z2', r1, r2⟩ ih
        have hS2 := f2.1.sk hS1
        have eR := (w2.1.2.2 c hc).1
        have ta := (w2.1.2.2 c hc).2.1
        have ha := (w2.2.1 c hc).1
        have e282 : mI h2 28 1 = nI n := by rw [f2.2 _ _ (by omega)]; exact e28
        obtain ⟨ld, nd, q⟩ := r2 c (Nat.le_refl _) hc
        have hld := q.2.2.1
        refine qX0_dropBeyond_7 _ _ hS2 ⟨fun z => absurd z (by rw [show mI h2 33 1 = nI (wn W) from w2.1.1]; exact nI_ge hc (by omega)), fun _ => ⟨vp_in_nI (by omega) (by omega), I c, by rw [nI_clamp (by omega)]; exact eR, ta, ?_⟩⟩
        rw [q.1, e282, nI_clamp (show c < 2 ^ 31 by omega), nI_1]
        refine ⟨fun z => ?_, fun z => ⟨vp_in_nI (by omega) (by omega), I c, eR, ta, fun h3 e3 => ⟨vp_in_nI (by omega) (by omega), ?_⟩⟩⟩
        · have hle : ld ≤ n := by rw [nI_leI (by omega) (by omega)] at z; exact z
          refine ih h2 ⟨f2, w2, z2', fun c' hc' => ?_, fun c' h1 h2 => r2 c' (by omega) h2⟩
          by_cases e : c' = c
          · rw [e]
            exact ⟨ld, nd, rch.cg (W := W) (W' := wBack W) rfl (by rw [en]; exact hle) (fun i hi k => rfl) (fun i hi => ⟨q.2.2.2.1 i hi, fun x y => rfl⟩) q⟩
          · exact r1 c' (by omega)
        · have hld2 : ld = n + 1 := by
            have : ¬ ld ≤ n := fun t => z (nI_le t (by omega))
            omega
          -- what both cases come to
          have fin : ∀ h4, h4 = mSI h3 (I c) 11 (nI (bkN W n)) → mW G kX0_dropBeyond (d + 1) (0, 0) 7 [some (.inr (some 33)), some (.inr (some 28)), some (.inr z2), some (.inl (nI (c + 1)))] [] h4 Q2 := by
            intro h4 e4
            have w3 : cWo h3 (wBack W) I := by rw [e3]; exact w2.ld hS2 hc (Or.inl rfl)
            have hS3 : mSk h3 := by rw [e3]; exact sk_SI hS2
            have t3 : mT h3 (I c) = 2 := by rw [e3]; exact ta
            have w4 : cWo h4 (wBack W) I := by rw [e4]; exact w3.ld hS3 hc (Or.inr rfl)
            have f24 : mFr2 (fun x k => 93 ≤ x) h2 h4 := by
              rw [e4, e3]
              exact (mFr2.SI (A := fun x k => 93 ≤ x) ha).tr (mFr2.SI ha)
            have kz4 : kcZ h4 W := by rw [e4, e3]; exact (z2'.ld hS2 ta).ld (sk_SI hS2) ta
            have oth : ∀ c' W' ld nd, c' ≠ c → c' < wn W → rch h2 (I c') W' c' ld nd → rch h4 (I c') W' c' ld nd := fun c' W' ld nd e hc' r => by
              have hne : I c' ≠ I c := fun t => e (w2.2.2.1 c' c hc' hc t)
              have tx := (w2.1.2.2 c' hc').2.1
              rw [e4, e3]
              exact (r.ld hS2 tx ta hne).ld (sk_SI hS2) tx ta hne
            refine ih h4 ⟨f2.tr f24, w4, kz4, fun c' hc' => ?_, fun c' g1 g2 => ?_⟩
            · by_cases e : c' = c
              · rw [e]
                have n5 : ∀ k, mI h4 (I c + 5) k = mI h2 (I c + 5) k := fun k => by rw [e4, mI_SI_a (by omega), e3, mI_SI_a (by omega)]
                refine ⟨n, bkN W n, by rw [e4, mI_SI_k (by omega), e3, mI_SI_s], by rw [e4, mI_SI_s], by rw [en]; exact Nat.le_refl _, fun i hi => ?_, fun i hi w x y q1 q2 q3 => ?_, fun i hi w x y q1 q2 q3 => ?_⟩
                · rw [← hi, bkN_s]; exact Nat.le_refl _
                · rw [n5]; exact q.2.2.2.2.1 i (by omega) w x y q1 q2 q3
                · rw [n5, ← hi, bkN_s]
                  have := q.2.2.2.2.1 i (by omega) w x y q1 q2 q3
                  rw [this]
                  show decide (wF W c i (32 * y + x) ≤ w) = decide (pV W c i (jN (wJ W i)) x y ≤ w)
                  rw [pV_all W c i x y q2]
              · obtain ⟨ld', nd', r'⟩ := r1 c' (by omega)
                exact ⟨ld', nd', oth c' _ ld' nd' e (by omega) r'⟩
            · obtain ⟨ld', nd', r'⟩ := r2 c' (by omega) g2
              exact ⟨ld', nd', oth c' _ ld' nd' (by omega) g2 r'⟩
          have e3R : mR h3 34 c = some (I c) := by rw [e3]; exact eR
          have e3T : mT h3 (I c) = 2 := by rw [e3]; exact ta
          refine ⟨fun ez => ⟨I c, e3R, e3T, fun h4 e4 => ?_⟩, fun y7 ey => ?_⟩
          · have n0 : n = 0 := by
              apply Classical.byContradiction; intro t
              obtain ⟨lid, e, -⟩ := hz1 (n - 1) (by omega)
              rw [ez] at e; cases e
            rw [ez] at fin
            exact fin h4 (by rw [e4, n0]; rfl)
          · obtain ⟨m, hm⟩ : ∃ m, n = m + 1 := ⟨n - 1, by
              have : n ≠ 0 := fun t => by rw [hz0 t] at ey; cases ey
              omega⟩
            obtain ⟨lid, ez, er⟩ := hz1 m hm
            have eq1 : y7 = lid := by rw [ez] at ey; cases ey; rfl
            subst eq1
            have er2 : mR h2 29 m = some y7 := by rw [f2.1.2.2.2]; exact er
            obtain ⟨lid0, r0, lx⟩ := (w2.2.2.2.2.2.2.1.2.2 m (by omega)).1
            rw [er2] at r0
            cases r0
            have ap := ap62 hS2 lx.1 ta 0 0 (by omega) (by omega)
            have e5 : mI h3 y7 5 = nI (jN (wJ W m)) := by
              rw [e3, mI_SI_a (by omega)]; exact lx.2.2.2.2.2.2.2.1
            rw [e5]
            refine ⟨by rw [e3]; exact lx.1, I c, e3R, e3T, fun h4 e4 => ?_⟩
            rw [ez] at fin
            exact fin h4 (by rw [e4, hm, bkN_s])
      · rintro h2 ⟨f2, w2, kz, r1, r2⟩
        exact qX0_dropBeyond_7 _ _ (f2.1.sk hS1) ⟨fun _ => KQ h2 f2 ⟨w2, r1, kz, st.2.2.2.kp (f1.1.tr f2.1)⟩, fun z => absurd (by rw [show mI h2 33 1 = nI (wn W) from w2.1.1]; exact nI_le (by omega) (by omega)) z⟩
      · obtain ⟨ld, nd, q⟩ := st.2.1 c' hc'
        have := (st.1.2.1 c' hc').1
        exact ⟨ld, nd, q.eq (fun j k _ => f1.2 _ _ (fun z => by omega))⟩
    refine qX0_dropBeyond hS1 ?_
    have last : ∀ h2, mFr2 (fun x k => 93 ≤ x) h1 h2 → cSt h2 (wBack W) I → mSk h2 ∧ ∀ h3, h3 = mSI h2 8 7 ((mI h2 8 7) + 1) → Q (some (.inl (mI h3 28 1))) h3 := by
      intro h2 f2 s2
      refine ⟨f2.1.sk hS1, fun h3 e3 => ?_⟩
      have f3 : mFr2 (fun x k => x = 8 ∧ k = 7) h2 h3 := by rw [e3]; exact mFr2.SI ⟨rfl, rfl⟩
      have e4 : mI h3 28 1 = nI n := by rw [f3.2 _ _ (by omega), f2.2 _ _ (by omega)]; exact e28
      rw [e4]
      exact K2 n hn h3 (((f1.wk (fun x k z => Or.inr (Or.inl z))).tr (f2.wk (fun x k z => Or.inl z))).tr (f3.wk (fun x k z => Or.inr (Or.inr z)))) (by rw [e3, mI_SI_s, f2.2 _ _ (by omega), f1.2 _ _ (by omega)]) (s2.lo f3 (fun x k z => ⟨by omega, by unfold wl0; omega⟩))
    refine qX6_last hS1 ⟨fun z => ⟨_, rfl, hS1, ?_⟩, fun z => ?_⟩
    · have n0 : n = 0 := by rw [e28, show (0 : Int32) = nI 0 from rfl, nI_leI (by omega) (by omega)] at z; omega
      exact lp none (fun _ => rfl) (fun m hm => by omega) _ (fun h2 f2 s2 => ⟨rfl, last h2 f2 s2⟩)
    · have n0 : 0 < n := by
        apply Classical.byContradiction; intro t
        exact z (by rw [e28]; exact nI_le (b := 0) (by omega) (by omega))
      obtain ⟨m, hm⟩ : ∃ m, n = m + 1 := ⟨n - 1, by omega⟩
      have e2 : mI h1 28 1 - 1 = nI m := by rw [e28, hm]; exact nI_pred m
      rw [e2, nI_clamp (by omega)]
      obtain ⟨lid, r0, lx⟩ := (w1.2.2.2.2.2.2.1.2.2 m (by omega)).1
      refine ⟨vp_in_nI (by omega) (by omega), _, rfl, hS1, ?_⟩
      exact lp _ (fun t => by omega) (fun m' hm' => ⟨lid, by rw [r0], by rw [show m' = m by omega]; exact r0⟩) _ (fun h2 f2 s2 => ⟨rfl, last h2 f2 s2⟩)
  · rw [e1, show (0 : Int32) = nI 0 from rfl, nI_eq (by omega) (by omega)] at z; exact z
end
