/-! goBackTo (class) -/
theorem mFr2.split {A B C : Nat → Nat → Prop} {h h' : mH} (f : mFr2 C h h') (hC : ∀ x k, C x k → A x k ∨ B x k) : ∃ h2, mFr2 A h h2 ∧ mFr2 B h2 h' ∧ ∀ x k, ¬ B x k → mI h2 x k = mI h' x k := by
  refine ⟨(mN h, mT h, mL h, fun x k => @ite Int32 (B x k) (Classical.propDecidable _) (mI h x k) (mI h' x k), mR h), ⟨⟨rfl, rfl, rfl, rfl⟩, fun a k hA => ?_⟩, ⟨⟨f.1.1, f.1.2.1, f.1.2.2.1, f.1.2.2.2⟩, fun a k hB => ?_⟩, fun a k hB => ?_⟩
  · show (@ite Int32 (B a k) (Classical.propDecidable _) (mI h a k) (mI h' a k)) = _
    by_cases q : B a k
    · rw [if_pos q]
    · rw [if_neg q]; exact f.2 _ _ (fun z => (hC a k z).elim hA q)
  · show _ = (@ite Int32 (B a k) (Classical.propDecidable _) (mI h a k) (mI h' a k))
    rw [if_neg hB]
  · show (@ite Int32 (B a k) (Classical.propDecidable _) (mI h a k) (mI h' a k)) = _
    rw [if_neg hB]
/-- the class's scratch cells that hold nothing of the world -/
def aCa : Nat → Nat → Prop := fun x k => x = 31 ∨ x = 32 ∨ (x = 28 ∧ 10 ≤ k) ∨ (x = 33 ∧ (k = 2 ∨ k = 6)) ∨ (35 ≤ x ∧ x ≤ 37) ∨ (x = 38 ∧ 2 ≤ k) ∨ x = 39 ∨ x = 40 ∨ (x = 41 ∧ 4 ≤ k) ∨ x = 45 ∨ x = 46 ∨ x = 27
theorem cWo.ca {h h' : mH} {W : aW} {I : Nat → Nat} (f : mFr2 aCa h h') (hW : cWo h W I) : cWo h' W I := by
  obtain ⟨h1, h2, h3, h4, h5, h6, h7, h8, h9, h10, h11⟩ := hW
  have lo : ∀ x k, ¬ aCa x k → mI h' x k = mI h x k := fun x k q => f.2 _ _ q
  have hi : ∀ x k, 93 ≤ x → ¬ aCa x k := fun x k q z => by unfold aCa at z; omega
  refine ⟨⟨?_, h1.2.1, fun c hc => ⟨by rw [f.1.2.2.2]; exact (h1.2.2 c hc).1, ?_⟩⟩, fun c hc => ⟨(h2 c hc).1, ?_⟩, h3, ?_, ?_, h6, ⟨?_, h7.2.1, fun i hi2 => ⟨?_, (h7.2.2 i hi2).2⟩⟩, ⟨?_, h8.2⟩, ?_, h10.kp f.1, ?_⟩
  · rw [lo 33 1 (by unfold aCa; omega)]; exact h1.1
  · have := (h2 c hc).1
    exact cCo.fr f (hi _ _ (by omega)) (fun j k _ => hi _ _ (by omega)) (h1.2.2 c hc).2 (cSw.fr f (fun k => hi _ _ (by omega)) (fun k => hi _ _ (by omega)) (h1.2.2 c hc).2.2.2.2.2)
  · have := (h2 c hc).1
    rw [lo _ _ (hi _ _ (by omega))]; exact (h2 c hc).2
  · exact soX.fr f (fun a k q1 q2 => by unfold aCa; omega) (by unfold aCa; omega) h4
  · exact lwX.fr f (fun a k q => by unfold aCa; omega) h5
  · rw [lo 28 1 (by unfold aCa; omega)]; exact h7.1
  · obtain ⟨lid, r1, t6, g93, g0, g1, g2, g3, g4, g5, g6⟩ := (h7.2.2 i hi2).1
    have nl : ∀ k, mI h' lid k = mI h lid k := fun k => lo _ _ (hi _ _ g93)
    refine ⟨lid, by rw [f.1.2.2.2]; exact r1, by rw [f.1.2.1]; exact t6, g93, by rw [nl]; exact g0, by rw [nl]; exact g1, by rw [nl]; exact g2, by rw [nl]; exact g3, by rw [nl]; exact g4, by rw [nl]; exact g5, fun k hk => ?_⟩
    obtain ⟨v, v1, v2, v3, v4, v5, v6, v7⟩ := g6 k hk
    have nv : ∀ k, mI h' v k = mI h v k := fun k => lo _ _ (hi _ _ v2)
    exact ⟨v, by rw [f.1.2.2.2]; exact v1, v2, by rw [f.1.2.1]; exact v3, by rw [nv]; exact v4, by rw [nv]; exact v5, by rw [nv]; exact v6, by rw [nv]; exact v7⟩
  · rw [lo 28 2 (by unfold aCa; omega)]; exact h8.1
  · obtain ⟨⟨q1, q2, q3⟩, q4⟩ := h9
    refine ⟨⟨?_, ?_, fun x hx => ?_⟩, q4⟩
    · rw [lo 28 3 (by unfold aCa; omega)]; exact q1
    · rw [lo 28 4 (by unfold aCa; omega)]; exact q2
    · rw [lo 28 5 (by unfold aCa; omega)]; exact q3 x hx
  · exact kcA.fr f h7 (fun v j k _ hv _ => hi _ _ (by omega)) h11
theorem cSt.ca {h h' : mH} {W : aW} {I : Nat → Nat} (f : mFr2 aCa h h') (st : cSt h W I) : cSt h' W I := by
  obtain ⟨s1, s2, s3, s4⟩ := st
  have hi : ∀ x k, 93 ≤ x → ¬ aCa x k := fun x k q z => by unfold aCa at z; omega
  refine ⟨s1.ca f, fun c hc => ?_, fun v r tv hv q1 q2 => ?_, s4.kp f.1⟩
  · have := (s1.2.1 c hc).1
    obtain ⟨ld, nd, r⟩ := s2 c hc
    exact ⟨ld, nd, r.fr f (fun k _ => hi _ _ (by omega)) (fun k => hi _ _ (by omega))⟩
  · rw [f.1.2.1] at tv
    rw [f.2 _ _ (hi _ _ (by omega)), f.2 _ _ (hi _ _ (by omega))]
    exact s3 v r tv hv q1 q2
/-- what going back may change -/
def aGb (h : mH) (a c : Nat) : Nat → Nat → Prop := fun x k => x = 30 ∨ x = 31 ∨ aMid a x k ∨ (∃ v, mT h v = 8 ∧ 93 ≤ v ∧ (x = v + 1 ∨ x = v + 2) ∧ c * 32 ≤ k ∧ k < c * 32 + 32)
theorem cWo.gb {h h' : mH} {W : aW} {I : Nat → Nat} {c : Nat} (hS : mSk h) (hc : c < wn W) (f : mFr2 (aGb h (I c) c) h h') (s : cSw h' (I c) (wC W c)) (kc : kcA h' W) (hW : cWo h W I) : cWo h' W I := by
  have ha := (hW.2.1 c hc).1
  obtain ⟨h2, f1, f2, g⟩ := f.split (A := aFl h (I c) c) (B := aCa) (fun x k z => by
    rcases z with z | z | z | z
    · exact Or.inl (Or.inr (Or.inr (Or.inl z)))
    · exact Or.inr (Or.inl z)
    · exact Or.inl (Or.inr (Or.inr (Or.inr (Or.inl z))))
    · exact Or.inl (Or.inr (Or.inr (Or.inr (Or.inr z)))))
  have hi : ∀ x k, 93 ≤ x → mI h2 x k = mI h' x k := fun x k q => g _ _ (fun z => by unfold aCa at z; omega)
  refine cWo.ca f2 (cWo.fl hS hc f1 (fun q hq n0 x y hx hy => ?_) ?_ hW)
  · rw [hi _ _ (by omega)] at n0 ⊢
    exact s q hq n0 x y hx hy
  · intro i lid k v hi2 hl hk hv c' y hc' hy x hx
    have hl0 : mR h 29 i = some lid := by rw [← f1.1.2.2.2]; exact hl
    have hv0 : mR h (lid + 1) k = some v := by rw [← f1.1.2.2.2]; exact hv
    obtain ⟨lid', r1, -, -, -, -, -, -, -, -, g6⟩ := (hW.2.2.2.2.2.2.1.2.2 i hi2).1
    rw [hl0] at r1
    cases r1
    obtain ⟨v', v1, v2, v3, -⟩ := g6 k hk
    rw [hv0] at v1
    cases v1
    rw [hi _ _ (by omega), hi _ _ (by omega)]
    exact kc i lid k v hi2 (by rw [f.1.2.2.2]; exact hl0) hk (by rw [f.1.2.2.2]; exact hv0) c' y hc' hy x hx
theorem aGb_5 {h : mH} {a c k : Nat} (hS : mSk h) (ta : mT h a = 2) (ha : 93 ≤ a) : ¬ aGb h a c (a + 5) k := by
  intro z
  rcases z with z | z | z | ⟨v, z1, z2, z3, z4⟩
  · omega
  · omega
  · unfold aMid aEr aEar at z; omega
  · have ap := ap82 hS z1 ta
    have := ap 1 5 (by omega) (by omega); have := ap 2 5 (by omega) (by omega)
    omega
theorem cSt.gb {h h' : mH} {W : aW} {I : Nat → Nat} {c : Nat} (hS : mSk h) (hc : c < wn W) (f : mFr2 (aGb h (I c) c) h h') (s : cSw h' (I c) (wC W c)) (kc : kcA h' W) (st : cSt h W I) : cSt h' W I := by
  have ha := (st.1.2.1 c hc).1
  have ta := (st.1.1.2.2 c hc).2.1
  obtain ⟨h2, f1, f2, g⟩ := f.split (A := aFl h (I c) c) (B := aCa) (fun x k z => by
    rcases z with z | z | z | z
    · exact Or.inl (Or.inr (Or.inr (Or.inl z)))
    · exact Or.inr (Or.inl z)
    · exact Or.inl (Or.inr (Or.inr (Or.inr (Or.inl z))))
    · exact Or.inl (Or.inr (Or.inr (Or.inr (Or.inr z)))))
  have hi : ∀ x k, 93 ≤ x → mI h2 x k = mI h' x k := fun x k q => g _ _ (fun z => by unfold aCa at z; omega)
  have w' := cWo.gb hS hc f s kc st.1
  obtain ⟨ld, nd, r⟩ := st.2.1 c hc
  have n0 : ∀ k, 10 ≤ k → ¬ aGb h (I c) c (I c) k := fun k _ z => by
    rcases z with z | z | z | ⟨v, z1, z2, z3, z4⟩
    · omega
    · omega
    · unfold aMid aEr aEar at z; omega
    · have ap := ap82 hS z1 ta
      have := ap 1 0 (by omega) (by omega); have := ap 2 0 (by omega) (by omega)
      omega
  have r' := r.fr f n0 (fun k => aGb_5 hS ta ha)
  refine ⟨w', fun c' hc' => ?_, ?_, st.2.2.2.kp f.1⟩
  · by_cases e : c' = c
    · rw [e]; exact ⟨ld, nd, r'⟩
    · obtain ⟨ld', nd', q⟩ := st.2.1 c' hc'
      have hne : I c' ≠ I c := fun q => e (st.1.2.2.1 c' c hc' hc q)
      have tx := (st.1.1.2.2 c' hc').2.1
      have hx := (st.1.2.1 c' hc').1
      have q2 := q.fr f1 (fun k _ => aFl_o (j := 0) hS ta ha tx hx hne (by omega)) (fun k => aFl_o (j := 5) hS ta ha tx hx hne (by omega))
      exact ⟨ld', nd', q2.fr f2 (fun k _ z => by unfold aCa at z; omega) (fun k z => by unfold aCa at z; omega)⟩
  · have kz := st.2.2.1.fl hS ta hc f1
    intro v r tv hv q1 q2
    rw [← hi _ _ (by omega), ← hi _ _ (by omega)]
    exact kz v r (by rw [← f2.1.2.1]; exact tv) hv q1 q2
theorem flK.gb {h h' : mH} {W : aW} {I : Nat → Nat} {c : Nat} (hS : mSk h) (hc : c < wn W) (f : mFr2 (aGb h (I c) c) h h') (s1 : cWo h W I) : flK h h' W I := by
  intro c' hc' o'
  have ha := (s1.2.1 c hc).1
  have ta := (s1.1.2.2 c hc).2.1
  refine o'.fr f (fun k z => ?_)
  have hx := (s1.2.1 c' hc').1
  have tx := (s1.1.2.2 c' hc').2.1
  by_cases e : I c' = I c
  · rw [e] at z; exact aGb_5 hS ta ha z
  · refine aFl_o (j := 5) (c := c) (k := k) hS ta ha tx hx e (by omega) ?_
    rcases z with z | z | z | z
    · omega
    · omega
    · exact Or.inr (Or.inr (Or.inr (Or.inl z)))
    · exact Or.inr (Or.inr (Or.inr (Or.inr z)))
/-- the notes' memories behind a sift -/
theorem kcA.si {h2 h3 : mH} {W : aW} {I : Nat → Nat} {A fr i lid k v c : Nat} (hS2 : mSk h2) (hW2 : cWo h2 W I) (hc : c < wn W) (hA : A = I c + 5 ∨ A = 31) (f3 : mFr2 (aSi A fr v (I c) c) h2 h3) (hi : i < wl W) (hk : k < jN (wJ W i)) (r2 : mR h2 29 i = some lid) (v1 : mR h2 (lid + 1) k = some v)
    (kc3 : ∀ y, y < 32 → kcR h3 v (c * 32 + y) (fun x => hdB (wL W) (wU W) (wC W c) (wJ W i) (jT (wJ W i) k) x y)) : kcA h3 W := by
  have ta2 := (hW2.1.2.2 c hc).2.1
  obtain ⟨lid0, q1, q2⟩ := (hW2.2.2.2.2.2.2.1.2.2 i hi).1
  rw [r2] at q1
  cases q1
  obtain ⟨tl, -, -, -, -, -, -, -, ln⟩ := q2
  obtain ⟨v0, w1, v93, vx⟩ := ln k hk
  rw [v1] at w1
  cases w1
  intro i' lid' k' v' hi' hl' hk' hv' c' y hc' hy
  have hl2 : mR h2 29 i' = some lid' := by rw [← f3.1.2.2.2]; exact hl'
  have hv2 : mR h2 (lid' + 1) k' = some v' := by rw [← f3.1.2.2.2]; exact hv'
  obtain ⟨lid'', q1, q2⟩ := (hW2.2.2.2.2.2.2.1.2.2 i' hi').1
  rw [hl2] at q1
  cases q1
  obtain ⟨tl', -, -, -, -, -, -, -, ln'⟩ := q2
  obtain ⟨v'', w1, w2, w3⟩ := ln' k' hk'
  rw [hv2] at w1
  cases w1
  have hin := hW2.2.2.2.2.2.2.2.2.2.1
  by_cases e : v' = v ∧ c' = c
  · obtain ⟨e1, e2⟩ := e
    subst e1; subst e2
    obtain ⟨q3, q4⟩ := hin.2 lid' lid k' k v' tl' tl hv2 v1
    subst q3; subst q4
    have q5 := hin.1 i' i lid' hl2 r2
    subst q5
    exact kc3 y hy
  · have g : ∀ j, j = 1 ∨ j = 2 → mI h3 (v' + j) (c' * 32 + y) = mI h2 (v' + j) (c' * 32 + y) := fun j hj => f3.2 _ _ (fun z => by
      have ap' := ap82 hS2 w3.1 ta2
      have a3 := ap' j 3 (by omega) (by omega); have a4 := ap' j 4 (by omega) (by omega); have a5 := ap' j 5 (by omega) (by omega)
      rcases z with z | z | z
      · omega
      · by_cases e3 : v' = v
        · have : c' ≠ c := fun q => e ⟨e3, q⟩
          omega
        · have ap2 := ap88 hS2 w3.1 vx.1 e3
          have := ap2 j 1 (by omega) (by omega); have := ap2 j 2 (by omega) (by omega)
          omega
      · unfold aMid aEr aEar at z; omega)
    intro x hx
    rw [g 1 (by omega), g 2 (by omega)]
    exact hW2.2.2.2.2.2.2.2.2.2.2 i' lid' k' v' hi' hl2 hk' hv2 c' y hc' hy x hx
noncomputable def pG (W : aW) (c r j x y : Nat) : Nat := if wF W c (wl W - 1 - r) (32 * y + x) ≤ ws W then gbV W c r (32 * y + x) + wrC (wL W) (wU W) (wC W c) (wJ W (wl W - 1 - r)) x y j else FARn
theorem wF_wat {W : aW} {c i x y : Nat} (hs : ws W ≤ 3) (hx : x < 32) (h : wF W c i (32 * y + x) ≤ ws W) : coLand (wC W c) x y = false := by
  rw [← pV_all W c i x y hx] at h
  exact pV_w W c i _ x y (ws W) hs h
theorem pG_s (W : aW) (c r j x y w : Nat) (hw : w ≤ 3) : pG W c r j x y + (if hdB (wL W) (wU W) (wC W c) (wJ W (wl W - 1 - r)) (jT (wJ W (wl W - 1 - r)) j) x y then 0 else 1) ≤ w ↔ pG W c r (j + 1) x y ≤ w := by
  have e : wrC (wL W) (wU W) (wC W c) (wJ W (wl W - 1 - r)) x y (j + 1) = wrC (wL W) (wU W) (wC W c) (wJ W (wl W - 1 - r)) x y j + (if !hdB (wL W) (wU W) (wC W c) (wJ W (wl W - 1 - r)) (jT (wJ W (wl W - 1 - r)) j) x y then 1 else 0) := rfl
  unfold pG
  rw [e]
  cases hdB (wL W) (wU W) (wC W c) (wJ W (wl W - 1 - r)) (jT (wJ W (wl W - 1 - r)) j) x y with
  | true =>
    rw [if_pos rfl, if_neg (show ¬ ((!true) = true) by decide)]; exact Iff.rfl
  | false =>
    rw [if_neg (show ¬ (false = true) by decide), if_pos (show (!false) = true by decide)]
    by_cases q : wF W c (wl W - 1 - r) (32 * y + x) ≤ ws W
    · rw [if_pos q, if_pos q]; omega
    · rw [if_neg q, if_neg q]; unfold FARn; omega
theorem pG_all (W : aW) (c r x y w : Nat) (hs : ws W ≤ 3) (hw : w ≤ 3) (hx : x < 32) : pG W c r (jN (wJ W (wl W - 1 - r))) x y ≤ w ↔ gbA W c r (32 * y + x) ≤ w := by
  unfold pG gbA
  by_cases q : wF W c (wl W - 1 - r) (32 * y + x) ≤ ws W
  · rw [if_pos q, if_pos q, sm_le (by unfold FARn; omega)]
    have hl := wF_wat hs hx q
    have : wO W c (wl W - 1 - r) (32 * y + x) = wrC (wL W) (wU W) (wC W c) (wJ W (wl W - 1 - r)) x y (jN (wJ W (wl W - 1 - r))) := by
      unfold wO owK owC
      rw [show (32 * y + x) % 32 = x by omega, show (32 * y + x) / 32 = y by omega, hl]; rfl
    rw [this]; unfold FARn; omega
  · rw [if_neg q, if_neg q]
theorem and31 {i : Nat} (h : i < 1000) : (nI i &&& 31) = nI (i % 32) := pk_andN (n := i) (by omega) (m := 31) 5 (by decide)
section
variable {G : mG} {d : Nat} {b : Nat × Nat} {h : mH} {Q : Option mV → mH → Prop}
set_option maxHeartbeats 4000000 in
theorem c6_goBackTo {c i : Nat} {W : aW} {I : Nat → Nat} (hS : mSk h) (st : cSt h W I) (hc : c < wn W) (o : fol h W I c) (hi : i < wl W)
    (K : ∀ h', mFr2 (aGb h (I c) c) h h' → cSt h' W I → fol h' W I c → flK h h' W I → rwB h' 31 0 (ws W) (fun x y => gbV W c (wl W - 1 - i) (32 * y + x)) → Q none h') : mC G kX6_goBackTo (d + 5) b [.inr (some 28), .inr (some (I c)), .inl (nI i)] h Q := by
  have ta := (st.1.1.2.2 c hc).2.1
  have ha := (st.1.2.1 c hc).1
  have hn8 := st.1.1.2.1
  have hl12 := st.1.2.2.2.2.2.2.1.2.1
  have hs3 := st.1.2.2.2.2.2.2.2.1.2
  have okO := wO_okX st.1 c
  have t31 := skT_31 hS
  have l31 := skL_31 hS
  have wo : ∀ h1, mFr2 (aGb h (I c) c) h h1 → cSw h1 (I c) (wC W c) → kcA h1 W → cWo h1 W I := fun h1 f s k => cWo.gb hS hc f s k st.1
  have fo : ∀ h1, mFr2 (aGb h (I c) c) h h1 → fol h1 W I c := fun h1 f => o.fr f (fun k => aGb_5 hS ta ha)
  have head : ∀ (q r : Nat) (h1 : mH), r + q = wl W - 1 - i → mFr2 (aGb h (I c) c) h h1 → cSw h1 (I c) (wC W c) → kcA h1 W → rwB h1 31 0 (ws W) (fun x y => gbV W c r (32 * y + x)) →
      mW G kX6_goBackTo (d + 5) b 15 [some (.inr (some 28)), some (.inr (some (I c))), some (.inl (nI i)), some (.inl (nI (wl W - 1 - r))), none, none] [] h1 Q := by
    intro q
    induction q with
    | zero =>
      intro r h1 hr f1 s1 k1 rw1
      have er : r = wl W - 1 - i := by omega
      subst er
      exact qX6_goBackTo_15 (I c) _ _ (by rw [f1.1.2.1]; exact ta) (f1.1.sk hS) ⟨fun _ => K h1 f1 (cSt.gb hS hc f1 s1 k1 st) (fo h1 f1) (flK.gb hS hc f1 st.1) rw1, fun z => absurd (nI_le (by omega) (by omega)) z⟩
    | succ q ih =>
      intro r h1 hr f1 s1 k1 rw1
      have hS1 := f1.1.sk hS
      have ta1 : mT h1 (I c) = 2 := by rw [f1.1.2.1]; exact ta
      have hW1 := wo h1 f1 s1 k1
      have es1 := hW1.2.2.2.2.2.2.2.1.1
      obtain ⟨m, hm⟩ : ∃ m, m = wl W - 1 - r := ⟨_, rfl⟩
      have hmn : m < wl W := by omega
      rw [← hm]
      obtain ⟨⟨lid, r1, lx1⟩, okl⟩ := hW1.2.2.2.2.2.2.1.2.2 m hmn
      have hj6 : jN (wJ W m) ≤ 6 := okl.2.2.2.2.2.1
      have er : (nI m * 4 + nI (ws W)) * 32 = nI (m * 128 + 32 * ws W) := by
        rw [L4, pk_mul, nI_add, L32, pk_mul]; congr 1; omega
      -- the drift, w by w
      have drifts : ∀ h3, mFr2 (aGb h (I c) c) h h3 → cSw h3 (I c) (wC W c) → kcA h3 W → rwB h3 31 0 (ws W) (fun x y => gbA W c r (32 * y + x)) → mW G kX6_goBackTo (d + 5) b 117 [some (.inr (some 28)), some (.inr (some (I c))), some (.inl (nI i)), some (.inl (nI m)), none, some (.inl 0)] [] h3 Q := by
        intro h3 f3 s3 k3 rw3
        refine mloop (W := fun w h4 => mW G kX6_goBackTo (d + 5) b 117 [some (.inr (some 28)), some (.inr (some (I c))), some (.inl (nI i)), some (.inl (nI m)), none, some (.inl (nI w))] [] h4 Q)
          (P := fun w h4 => mFr2 (fun x _ => x = 30 ∨ x = 31) h3 h4 ∧ ∀ w' x y, w' ≤ ws W → x < 32 → y < 32 → bt (mI h4 31 (32 * w' + y)) x = (if w' < w then decide (gbV W c (r + 1) (32 * y + x) ≤ w') else decide (gbA W c r (32 * y + x) ≤ w'))) (ws W + 1) ?_ ?_ 0 h3 (by omega) ⟨mFr2.rf, fun w' x y q1 q2 q3 => ?_⟩
        · rintro w h4 hw ⟨f4, c4⟩ ih4
          have hS4 := f4.1.sk (f3.1.sk hS)
          have lo : ∀ x k, x ≠ 30 → x ≠ 31 → mI h4 x k = mI h3 x k := fun x k q1 q2 => f4.2 _ _ (fun z => by omega)
          have hW3 := wo h3 f3 s3 k3
          have es4 : mI h4 28 2 = nI (ws W) := by rw [lo _ _ (by omega) (by omega)]; exact hW3.2.2.2.2.2.2.2.1.1
          have r4 : mR h4 29 m = some lid := by rw [f4.1.2.2.2, f3.1.2.2.2, ← f1.1.2.2.2]; exact r1
          obtain ⟨⟨lid', r1', lx⟩, -⟩ := hW3.2.2.2.2.2.2.1.2.2 m hmn
          rw [f3.1.2.2.2, ← f1.1.2.2.2, r1] at r1'
          cases r1'
          obtain ⟨tl, l93, g0, g1, g2, -⟩ := lx
          refine qX6_goBackTo_117 (I c) _ _ _ (by rw [f4.1.2.1, f3.1.2.1]; exact ta) hS4 ⟨fun z => absurd z (by rw [es4]; exact nI_nlt (by omega) (by omega)), fun _ => ⟨vp_in_nI (by omega) (by omega), ?_⟩⟩
          rw [nI_clamp (by omega), r4, L32, pk_mul, show (-1 : Int32) = iI (-1) from rfl]
          refine c6_drift (d := d + 3) (sg := -1) (dx := jX (wJ W m)) (dy := jY (wJ W m)) (dr := jD (wJ W m)) (N := 128) (X := fun sx sy => decide (gbA W c r (32 * sy + sx) ≤ w)) hS4 (skT_31 hS4) (skL_31 hS4) (by omega) (by omega) (by omega) (by omega) (by rw [f4.1.2.1]; exact tl) (by rw [lo _ _ (by omega) (by omega)]; exact g0) (by rw [lo _ _ (by omega) (by omega)]; exact g1) (by rw [lo _ _ (by omega) (by omega)]; exact g2) okl.1 okl.2.1 okl.2.2.1 (Or.inr rfl) (fun x y hx hy => ?_) (fun h5 f5 c5 => ⟨rfl, f5.1.sk hS4, by rw [f5.1.2.1, f4.1.2.1, f3.1.2.1]; exact ta, ?_⟩)
          · rw [show w * 32 + y = 32 * w + y by omega, c4 w x y (by omega) hx hy, if_neg (by omega)]
          · rw [nI_1]
            refine ih4 h5 ⟨f4.tr (f5.wk (fun x k z => by unfold aDr at z; omega)), fun w' x y q1 q2 q3 => ?_⟩
            by_cases e : w' = w
            · rw [e, if_pos (by omega)]
              have h1 := c5 x y q2 q3
              rw [drB_lar (V := gbA W c r) (w := w) (fun k _ => gbA_b okO hl12 (by omega) k) (by unfold FARn; omega) (fun sx sy _ _ => rfl)] at h1
              rw [show w * 32 + y = 32 * w + y by omega] at h1
              have h2 : gbV W c (r + 1) (32 * y + x) = lar (gbA W c r) ((x : Int) - -1 * jX (wJ W m)) ((y : Int) - -1 * jY (wJ W m)) (jD (wJ W m)) := by
                rw [gbV_s, ← hm, show (32 * y + x) % 32 = x by omega, show (32 * y + x) / 32 = y by omega, show (x : Int) - -1 * jX (wJ W m) = x + jX (wJ W m) by omega, show (y : Int) - -1 * jY (wJ W m) = y + jY (wJ W m) by omega]
              rw [← h2] at h1
              by_cases q : gbV W c (r + 1) (32 * y + x) ≤ w
              · rw [decide_eq_true q]; exact h1.mpr q
              · rw [decide_eq_false q]
                cases hb : bt (mI h5 31 (32 * w + y)) x with
                | false => rfl
                | true => exact absurd (h1.mp hb) q
            · rw [f5.2 _ _ (fun z => by unfold aDr at z; omega), c4 w' x y q1 q2 q3]
              by_cases e2 : w' < w
              · rw [if_pos e2, if_pos (by omega)]
              · rw [if_neg e2, if_neg (by omega)]
        · rintro h4 ⟨f4, c4⟩
          have hS4 := f4.1.sk (f3.1.sk hS)
          have hW3 := wo h3 f3 s3 k3
          have es4 : mI h4 28 2 = nI (ws W) := by rw [f4.2 _ _ (fun z => by omega)]; exact hW3.2.2.2.2.2.2.2.1.1
          have f34 : mFr2 (aGb h (I c) c) h h4 := f3.tr (f4.wk (fun x k z => by unfold aGb; omega))
          refine qX6_goBackTo_117 (I c) _ _ _ (by rw [f4.1.2.1, f3.1.2.1]; exact ta) hS4 ⟨fun _ => ?_, fun z => absurd (by rw [es4]; exact nI_lt (by omega) (by omega)) z⟩
          have e9 : nI m + (-1) = nI (wl W - 1 - (r + 1)) := by
            rw [show m = (wl W - 1 - (r + 1)) + 1 by omega]; exact pk_m1 _
          rw [e9]
          refine ih (r + 1) h4 (by omega) f34 (cSw.fr f4 (fun k z => by omega) (fun k z => by omega) s3) (kcA.fr f4 hW3.2.2.2.2.2.2.1 (fun v j k _ hv _ z => by omega) k3) (fun w x y q1 q2 q3 => ?_)
          have := c4 w x y q1 q2 q3
          rw [if_pos (by omega)] at this
          rw [show 0 + 32 * w + y = 32 * w + y by omega]; exact this
        · have := rw3 w' x y q1 q2 q3
          rw [show 0 + 32 * w' + y = 32 * w' + y by omega] at this
          rw [if_neg (by omega)]; exact this
      -- the notes
      have notes : ∀ (u k : Nat) (h2 : mH), k + u = jN (wJ W m) → mFr2 (aGb h (I c) c) h h2 → cSw h2 (I c) (wC W c) → kcA h2 W → rwB h2 31 0 (ws W) (pG W c r k) →
          mW G kX6_goBackTo (d + 5) b 76 [some (.inr (some 28)), some (.inr (some (I c))), some (.inl (nI i)), some (.inl (nI m)), none, some (.inl (nI k))] [] h2 Q := by
        intro u
        induction u with
        | zero =>
          intro k h2 hk f2 s2 k2 rw2
          have hW2 := wo h2 f2 s2 k2
          obtain ⟨⟨lid', r1', lx⟩, -⟩ := hW2.2.2.2.2.2.2.1.2.2 m hmn
          have e5 : mI h2 lid' 5 = nI (jN (wJ W m)) := lx.2.2.2.2.2.2.2.1
          refine qX6_goBackTo_76 (I c) _ _ _ (by rw [f2.1.2.1]; exact ta) (f2.1.sk hS) ⟨vp_in_nI (by omega) (by omega), lid', by rw [nI_clamp (by omega)]; exact r1', lx.1, fun _ => ?_, fun z => absurd (by rw [e5]; exact nI_le (by omega) (by omega)) z⟩
          have ek : k = jN (wJ W m) := by omega
          rw [ek, hm] at rw2
          exact drifts h2 f2 s2 k2 (rw2.cg (fun w x y hw hx _ => pG_all W c r x y w hs3 (by omega) hx))
        | succ u ihu =>
          intro k h2 hk f2 s2 k2 rw2
          have hW2 := wo h2 f2 s2 k2
          have hS2 := f2.1.sk hS
          have ta2 : mT h2 (I c) = 2 := by rw [f2.1.2.1]; exact ta
          obtain ⟨⟨lid', r1', lx⟩, okl2⟩ := hW2.2.2.2.2.2.2.1.2.2 m hmn
          obtain ⟨tl, l93, -, -, -, l3, l4, l5, ln⟩ := lx
          obtain ⟨v, v1, v93, vx⟩ := ln k (by omega)
          refine qX6_goBackTo_76 (I c) _ _ _ ta2 hS2 ⟨vp_in_nI (by omega) (by omega), lid', by rw [nI_clamp (by omega)]; exact r1', tl, fun z => absurd z (by rw [l5]; exact nI_ge (by omega) (by omega)), fun _ => ⟨vp_in_nI (by omega) (by omega), ?_⟩⟩
          rw [nI_clamp (by omega), r1', show (0 : Int32) = nI 0 from rfl]
          refine c6_sift (l := wJ W m) (t := jT (wJ W m) k) (N := 128) (C := wC W c) (V := pG W c r k) hS2 (skT_31 hS2) (skL_31 hS2) (by omega) (by omega) (Or.inr rfl) vx v1 (by omega) tl l3 l4 v93 ha l93 (hW2.1.2.2 c hc).2 (hW2.2.1 c hc).2 (by omega) hW2.2.2.2.2.2.2.2.1.1 hs3 (okl2.2.2.2.2.2.2 k (by omega)) hW2.2.2.2.1 hW2.2.2.2.2.1 hW2.2.2.2.2.2.1 rw2 (fun x y hx hy hle => ?_) (fun y hy => k2 m lid' k v hmn r1' (by omega) v1 c y hc hy) (fun h3 f3 ri3 kc3 s3 => ?_)
          · unfold pG at hle
            by_cases z : wF W c (wl W - 1 - r) (32 * y + x) ≤ ws W
            · exact wF_wat hs3 hx z
            · rw [if_neg z] at hle; unfold FARn at hle; omega
          · have f3' : mFr2 (aGb h (I c) c) h2 h3 := f3.wk (fun x k' z => by
              rcases z with z | z | z
              · exact Or.inr (Or.inl z.1)
              · exact Or.inr (Or.inr (Or.inr ⟨v, by rw [← f2.1.2.1]; exact vx.1, v93, z.1, z.2⟩))
              · exact Or.inr (Or.inr (Or.inl z)))
            have k3 : kcA h3 W := kcA.si hS2 hW2 hc (Or.inr rfl) f3 hmn (by omega) r1' v1 kc3
            refine ⟨rfl, f3.1.sk hS2, by rw [f3.1.2.1]; exact ta2, by rw [f3.1.2.1]; exact tl, ?_⟩
            rw [nI_1]
            refine ihu (k + 1) h3 (by omega) (f2.tr f3') s3 k3 (ri3.cg (fun w x y hw _ _ => ?_))
            rw [hm]; exact pG_s W c r k x y w (by omega)
      refine qX6_goBackTo_15 (I c) _ _ ta1 hS1 ⟨fun z => absurd z (nI_ge (by omega) (by omega)), fun _ => qX1_rowsAt (I c) _ _ ta1 hS1 ⟨_, rfl, hS1, ta1, ?_⟩⟩
      rw [es1, er]
      refine mloop (W := fun p h2 => mW G kX6_goBackTo (d + 5) b 34 [some (.inr (some 28)), some (.inr (some (I c))), some (.inl (nI i)), some (.inl (nI m)), some (.inl (nI (m * 128 + 32 * ws W))), some (.inl (nI p))] [] h2 Q)
        (P := fun p h2 => mFr2 (fun x _ => x = 31) h1 h2 ∧ ∀ j, j < 128 → mI h2 31 j = if j < p then mI h1 31 j &&& mI h1 (I c + 5) (m * 128 + 32 * ws W + j % 32) else mI h1 31 j) 128 ?_ ?_ 0 h1 (by omega) ⟨mFr2.rf, fun j hj => by rw [if_neg (by omega)]⟩
      · rintro p h2 hp ⟨f2, c2⟩ ih2
        have e31 : nI (m * 128 + 32 * ws W) + (nI p &&& 31) = nI (m * 128 + 32 * ws W + p % 32) := by rw [and31 (by omega), nI_add]
        refine qX6_goBackTo_34 (I c) _ _ _ _ (by rw [f2.1.2.1]; exact ta1) (f2.1.sk hS1) ⟨fun z => absurd z (nI_ge (by omega) (by omega)), fun _ => ⟨vp_in_nI (by omega) (by omega), by rw [e31]; exact vp_in_nI (by omega) (by omega), vp_in_nI (by omega) (by omega), fun h4 e4 => ?_⟩⟩
        rw [e31, nI_clamp (show p < 2 ^ 31 by omega), nI_clamp (show m * 128 + 32 * ws W + p % 32 < 2 ^ 31 by omega)] at e4
        rw [nI_1, e4]
        refine ih2 _ ⟨f2.tr (mFr2.SI rfl), fun j hj => ?_⟩
        by_cases e : j = p
        · rw [e, mI_SI_s, if_pos (by omega), c2 p (by omega), if_neg (by omega), f2.2 _ _ (fun z => by omega)]
        · rw [mI_SI_k e, c2 j hj]
          by_cases e2 : j < p
          · rw [if_pos e2, if_pos (by omega)]
          · rw [if_neg e2, if_neg (by omega)]
      · rintro h2 ⟨f2, c2⟩
        refine qX6_goBackTo_34 (I c) _ _ _ _ (by rw [f2.1.2.1]; exact ta1) (f2.1.sk hS1) ⟨fun _ => ?_, fun z => absurd (nI_le (by omega) (by omega)) z⟩
        have f12 : mFr2 (aGb h (I c) c) h h2 := f1.tr (f2.wk (fun x k z => by unfold aGb; omega))
        refine notes (jN (wJ W m)) 0 h2 (by omega) f12 (cSw.fr f2 (fun k z => by omega) (fun k z => by omega) s1) (kcA.fr f2 hW1.2.2.2.2.2.2.1 (fun v j k _ hv _ z => by omega) k1) (fun w x y q1 q2 q3 => ?_)
        have h5 := rw1 w x y q1 q2 q3
        rw [show 0 + 32 * w + y = 32 * w + y by omega] at h5 ⊢
        rw [c2 _ (by omega), if_pos (by omega), bt_and, h5, show (32 * w + y) % 32 = y by omega, fo h1 f1 m hmn (ws W) x y (Nat.le_refl _) q2 q3]
        unfold pG
        rw [← hm]
        by_cases z : wF W c m (32 * y + x) ≤ ws W
        · rw [if_pos z, decide_eq_true z, Bool.and_true]; rfl
        · rw [if_neg z, decide_eq_false z, Bool.and_false, decide_eq_false (by unfold FARn; omega)]
  have e1 := st.1.2.2.2.2.2.2.1.1
  refine qX6_goBackTo (I c) _ ta hS (j_fill (-1) hS t31 l31 (by omega) (fun h1 f1 c1 => ⟨rfl, f1.1.sk hS, by rw [f1.1.2.1]; exact ta, ?_⟩))
  have e2 : mI h1 28 1 - 1 = nI (wl W - 1 - 0) := by
    rw [f1.2 _ _ (fun z => by omega), e1]
    obtain ⟨m, hm⟩ : ∃ m, wl W = m + 1 := ⟨wl W - 1, by omega⟩
    rw [hm]; exact nI_pred m
  rw [e2]
  have sw0 := (st.1.1.2.2 c hc).2.2.2.2.2
  refine head (wl W - 1 - i) 0 h1 (by omega) (f1.wk (fun x k z => by unfold aGb; omega)) (cSw.fr f1 (fun k z => by omega) (fun k z => by omega) sw0) (kcA.fr f1 st.1.2.2.2.2.2.2.1 (fun v j k _ hv _ z => by omega) st.1.2.2.2.2.2.2.2.2.2.2) (fun w x y q1 q2 q3 => ?_)
  rw [c1 _ (by omega), bt_m1 x q2]
  exact (decide_eq_true (Nat.zero_le _)).symm
end
