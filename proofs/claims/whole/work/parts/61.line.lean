/-! a line is told -/
def okLn (v1 v2 v3 v4 v5 : Int32) : Prop := ¬ f_X11_within v1 (-9) 9 = 0 ∧ ¬ f_X11_within v2 (-9) 9 = 0 ∧ ¬ f_X11_within v3 0 3 = 0 ∧ ¬ f_X11_within v4 0 23 = 0 ∧ ¬ f_X11_within v5 0 3 = 0
def lnA (v1 v2 v3 v4 v5 : Int32) : aLi := ((v1.toInt, v2.toInt), (v3.toNatClampNeg, v4.toNatClampNeg, v5.toNatClampNeg), 0, fun _ => (false, 0, 0, 0))
theorem wi9 {v : Int32} (e : ¬ f_X11_within v (-9) 9 = 0) : -9 ≤ v.toInt ∧ v.toInt ≤ 9 := by
  have h1 := f_wiZ (v := v) (-9) 9 ⟨by omega, by omega⟩ ⟨by omega, by omega⟩
  exact Classical.byContradiction (fun z => e (h1.mpr z))
theorem okLn_li {v1 v2 v3 v4 v5 : Int32} (m : Nat) (ok : okLn v1 v2 v3 v4 v5) : okLi m (lnA v1 v2 v3 v4 v5) ∧ v1 = iI (jX (lnA v1 v2 v3 v4 v5)) ∧ v2 = iI (jY (lnA v1 v2 v3 v4 v5)) ∧ v3 = nI (jD (lnA v1 v2 v3 v4 v5)) ∧ v4 = nI (jH (lnA v1 v2 v3 v4 v5)) ∧ v5 = nI (jW (lnA v1 v2 v3 v4 v5)) := by
  obtain ⟨o1, o2, o3, o4, o5⟩ := ok
  obtain ⟨q3, h3, e3⟩ := wi_ex (m := 3) (by omega) o3
  obtain ⟨q4, h4, e4⟩ := wi_ex (m := 23) (by omega) o4
  obtain ⟨q5, h5, e5⟩ := wi_ex (m := 3) (by omega) o5
  have c3 : v3.toNatClampNeg = q3 := by rw [e3]; exact nI_clamp (by omega)
  have c4 : v4.toNatClampNeg = q4 := by rw [e4]; exact nI_clamp (by omega)
  have c5 : v5.toNatClampNeg = q5 := by rw [e5]; exact nI_clamp (by omega)
  refine ⟨⟨wi9 o1, wi9 o2, ?_, ?_, ?_, Nat.zero_le _, fun k hk => absurd hk (Nat.not_lt_zero _)⟩, ii_of v1, ii_of v2, ?_, ?_, ?_⟩
  · show v3.toNatClampNeg ≤ 3; omega
  · show v4.toNatClampNeg < 24; omega
  · show v5.toNatClampNeg < 4; omega
  · show v3 = nI v3.toNatClampNeg; rw [c3]; exact e3
  · show v4 = nI v4.toNatClampNeg; rw [c4]; exact e4
  · show v5 = nI v5.toNatClampNeg; rw [c5]; exact e5
def wLine (W : aW) (l : aLi) : aW := (W.1, W.2.1, W.2.2.1, (wl W + 1, fun i => if i = wl W then l else wJ W i), W.2.2.2.2)
theorem wLine_J {W : aW} {l : aLi} {i : Nat} (h : i ≠ wl W) : wJ (wLine W l) i = wJ W i := if_neg h
theorem wLine_n {W : aW} {l : aLi} : wJ (wLine W l) (wl W) = l := if_pos rfl
theorem wLine_O {W : aW} {l : aLi} {c i k : Nat} (h : i < wl W) : wO (wLine W l) c i k = wO W c i k := by
  unfold wO
  rw [wLine_J (by omega)]; rfl
theorem wLine_F {W : aW} {l : aLi} {c i : Nat} (h : i < wl W) (k : Nat) : wF (wLine W l) c i k = wF W c i k :=
  foV_cg i (fun j hj k => wLine_O (by omega)) (fun j hj => by rw [wLine_J (by omega)]; exact ⟨rfl, rfl, rfl⟩) k
theorem wLine_P {W : aW} {l : aLi} {c i j x y : Nat} (h : i < wl W) : pV (wLine W l) c i j x y = pV W c i j x y := by
  have e : prV (wO (wLine W l) c) (wJ (wLine W l)) (wB W) i (32 * y + x) = prV (wO W c) (wJ W) (wB W) i (32 * y + x) := prV_cg i (fun j hj k => wLine_O (by omega)) (fun j hj => by rw [wLine_J (by omega)]; exact ⟨rfl, rfl, rfl⟩) _
  have e2 : wJ (wLine W l) i = wJ W i := wLine_J (by omega)
  show sm (prV (wO (wLine W l) c) (wJ (wLine W l)) (wB W) i (32 * y + x)) (if coLand (wC W c) x y then FARn else wrC (wL W) (wU W) (wC W c) (wJ (wLine W l) i) x y j) = _
  rw [e, e2]; rfl
/-- a cell of a line that is not among the log's is no cell of the world -/
theorem wcI_line {h : mH} {W : aW} {I : Nat → Nat} {lid n : Nat} (hS : mSk h) (hW : cWo h W I) (hn : wl W ≤ n) (r : mR h 29 n = some lid) (t : mT h lid = 6) (g : 93 ≤ lid) {x k : Nat} (z : wcI h W I x k) : x ≠ lid := by
  intro e
  subst e
  rcases z with z | ⟨c, j, z1, z2, z3⟩ | z | z | z | z | z | z | ⟨i, lid', q1, q2, q3⟩
  · omega
  · exact ap62 hS t (hW.1.2.2 c z1).2.1 0 j (by omega) z2 (by omega)
  · omega
  · omega
  · omega
  · omega
  · omega
  · omega
  · obtain ⟨lid'', r1, t6, g93, -, -, -, -, -, -, g6⟩ := (hW.2.2.2.2.2.2.1.2.2 i q1).1
    rw [q2] at r1
    cases r1
    rcases q3 with q3 | ⟨k', v, r1, r2, r3⟩
    · have := hW.2.2.2.2.2.2.2.2.2.1.1 i n x (by rw [q3]; exact q2) r
      omega
    · obtain ⟨v', v1, v2, v3, -⟩ := g6 k' r1
      rw [r2] at v1
      cases v1
      have ap := ap68 hS t v3
      have := ap 0 0 (by omega) (by omega); have := ap 0 1 (by omega) (by omega); have := ap 0 2 (by omega) (by omega)
      omega
theorem cSt.line {h : mH} {W : aW} {I : Nat → Nat} {lid : Nat} {l : aLi} (st : cSt h W I) (h12 : wl W < 12) (r : mR h 29 (wl W) = some lid) (ok : okLi (wm W) l) (hn : jN l = 0) (f0 : mI h lid 0 = iI (jX l)) (f1 : mI h lid 1 = iI (jY l)) (f2 : mI h lid 2 = nI (jD l)) (f3 : mI h lid 3 = nI (jH l)) (f4 : mI h lid 4 = nI (jW l)) (f5 : mI h lid 5 = 0) : cSt (mSI h 28 1 (nI (wl W + 1))) (wLine W l) I := by
  obtain ⟨⟨h1, h2, h3, h4, h5, h6, h7, h8, h9, h10, h11⟩, s2, s3, s4⟩ := st
  have f : mFr2 (fun x k => x = 28 ∧ k = 1) h (mSI h 28 1 (nI (wl W + 1))) := mFr2.SI ⟨rfl, rfl⟩
  obtain ⟨tl, l93⟩ := s4.1 _ _ r
  refine ⟨⟨⟨?_, h1.2.1, fun c hc => ⟨(h1.2.2 c hc).1, ?_⟩⟩, fun c hc => ⟨(h2 c hc).1, ?_⟩, h3, ?_, ?_, h6, ⟨mI_SI_s, by show wl W + 1 ≤ 12; omega, fun i hi => ?_⟩, ⟨?_, h8.2⟩, ?_, h10.kp f.1, ?_⟩, fun c hc => ?_, fun v r tv hv q1 q2 => ?_, s4.kp f.1⟩
  · rw [mI_SI_a (by omega)]; exact h1.1
  · have := (h2 c hc).1
    exact cCo.eq (h := h) (h' := mSI h 28 1 (nI (wl W + 1))) rfl (fun j k _ => mI_SI_a (show I c + j ≠ 28 by omega)) (h1.2.2 c hc).2
  · have := (h2 c hc).1
    rw [mI_SI_a (by omega)]; exact (h2 c hc).2
  · exact soX.fr f (fun a k q1 q2 z => by omega) (fun z => by omega) h4
  · exact lwX.fr f (fun a k q z => by omega) h5
  · by_cases e : i = wl W
    · subst e
      rw [wLine_n]
      exact ⟨⟨lid, r, tl, l93, by rw [mI_SI_a (by omega)]; exact f0, by rw [mI_SI_a (by omega)]; exact f1, by rw [mI_SI_a (by omega)]; exact f2, by rw [mI_SI_a (by omega)]; exact f3, by rw [mI_SI_a (by omega)]; exact f4, by rw [mI_SI_a (by omega), hn]; exact f5, fun k hk => by rw [hn] at hk; exact absurd hk (Nat.not_lt_zero _)⟩, ok⟩
    · have hi2 : i < wl W := by have : i < wl W + 1 := hi; omega
      rw [wLine_J e]
      obtain ⟨⟨lid', r1, t6, g93, g0, g1, g2, g3, g4, g5, g6⟩, okl⟩ := h7.2.2 i hi2
      refine ⟨⟨lid', r1, t6, g93, by rw [mI_SI_a (by omega)]; exact g0, by rw [mI_SI_a (by omega)]; exact g1, by rw [mI_SI_a (by omega)]; exact g2, by rw [mI_SI_a (by omega)]; exact g3, by rw [mI_SI_a (by omega)]; exact g4, by rw [mI_SI_a (by omega)]; exact g5, fun k hk => ?_⟩, okl⟩
      obtain ⟨v, v1, v2, v3, v4, v5, v6, v7⟩ := g6 k hk
      exact ⟨v, v1, v2, v3, by rw [mI_SI_a (by omega)]; exact v4, by rw [mI_SI_a (by omega)]; exact v5, by rw [mI_SI_a (by omega)]; exact v6, by rw [mI_SI_a (by omega)]; exact v7⟩
  · rw [mI_SI_k (by omega)]; exact h8.1
  · obtain ⟨⟨q1, q2, q3⟩, q4⟩ := h9
    refine ⟨⟨?_, ?_, fun x hx => ?_⟩, q4⟩
    · rw [mI_SI_k (by omega)]; exact q1
    · rw [mI_SI_k (by omega)]; exact q2
    · rw [mI_SI_k (by omega)]; exact q3 x hx
  · intro i lid' k v hi hl hk hv c y hc hy x hx
    by_cases e : i = wl W
    · subst e
      rw [wLine_n, hn] at hk
      exact absurd hk (Nat.not_lt_zero _)
    · have hi2 : i < wl W := by have : i < wl W + 1 := hi; omega
      rw [wLine_J e] at hk ⊢
      obtain ⟨lid'', r1, -, -, -, -, -, -, -, -, g6⟩ := (h7.2.2 i hi2).1
      have hl' : mR h 29 i = some lid' := hl
      have hv' : mR h (lid' + 1) k = some v := hv
      rw [hl'] at r1
      cases r1
      obtain ⟨v', v1, v2, -⟩ := g6 k hk
      rw [hv'] at v1
      cases v1
      rw [mI_SI_a (by omega), mI_SI_a (by omega)]
      exact h11 i lid' k v hi2 hl' hk hv' c y hc hy x hx
  · have hc' : c < wn W := hc
    have := (h2 c hc').1
    obtain ⟨ld, nd, q⟩ := s2 c hc'
    have q' := q.eq (h' := mSI h 28 1 (nI (wl W + 1))) (fun j k _ => mI_SI_a (show I c + j ≠ 28 by omega))
    have ql := q.2.2.1
    have hF : ∀ i, i < wl W → ∀ k, wF (wLine W l) c i k = wF W c i k := fun i hi k => wLine_F hi k
    have hP : ∀ i, i < wl W → ∀ x y, pV (wLine W l) c i nd x y = pV W c i nd x y := fun i hi x y => wLine_P hi
    have hi1 : ∀ i, i + 1 < ld → i < wl W := fun i hi => by omega
    have hi2 : ∀ i, i + 1 = ld → i < wl W := fun i hi => by omega
    refine ⟨ld, nd, rch.cg (W := W) (W' := wLine W l) rfl (by show ld ≤ wl W + 1; omega) (fun i hi => hF i (hi1 i hi)) (fun i hi => ⟨?_, hP i (hi2 i hi)⟩) q'⟩
    rw [wLine_J (by omega)]; exact q.2.2.2.1 i hi
  · have := s3 v r tv hv q1 q2
    rw [mI_SI_a (by omega), mI_SI_a (by omega)]; exact this
def aLn : Nat → Nat → Prop := fun x k => x = 28 ∧ k = 1
section
variable {G : mG} {d : Nat} {b : Nat × Nat} {b1 b2 : Nat} {h : mH} {Q : Option mV → mH → Prop}
theorem c6_add (v1 v2 v3 v4 v5 : Int32) {W : aW} {I : Nat → Nat} (hS : mSk h) (st : cSt h W I) (h12 : wl W < 12) (ok : okLn v1 v2 v3 v4 v5)
    (K : ∀ h', mSk h' → lwK aLn h h' → mN h' ≤ mN h + 2 → mI h' 28 1 = nI (wl W + 1) → cSt h' (wLine W (lnA v1 v2 v3 v4 v5)) I → Q none h') : mC G kX6_add (d + 2) (b1 + 2, b2 + 13) [.inr (some 28), .inl v1, .inl v2, .inl v3, .inl v4, .inl v5] h Q := by
  have e1 := st.1.2.2.2.2.2.2.1.1
  obtain ⟨okl, ev1, ev2, ev3, ev4, ev5⟩ := okLn_li (wm W) ok
  -- the line's fields
  have fin : ∀ (h7 : mH) (lid : Nat), mSk h7 → lwK aLn h h7 → mN h7 ≤ mN h + 2 → cSt h7 W I → mR h7 29 (wl W) = some lid → ∀ h10, h10 = mSI h7 lid 0 v1 → ∀ h11, h11 = mSI h10 lid 1 v2 → ∀ h12, h12 = mSI h11 lid 2 v3 → ∀ h13, h13 = mSI h12 lid 3 v4 → ∀ h14, h14 = mSI h13 lid 4 v5 → ∀ h15, h15 = mSI h14 lid 5 0 → ∀ h16, h16 = mSI h15 28 1 ((mI h15 28 1) + 1) → Q none h16 := by
    intro h7 lid hS7 l7 n7 s7 r7 h10 e10 h11 e11 h12' e12 h13 e13 h14 e14 h15 e15 h16 e16
    obtain ⟨tl, l93⟩ := s7.2.2.2.1 _ _ r7
    have sI : ∀ hh k v, mFr2 (fun x _ => x = lid) hh (mSI hh lid k v) := fun hh k v => mFr2.SI (A := fun x _ => x = lid) rfl
    have f : mFr2 (fun x _ => x = lid) h7 h15 := by
      rw [e15, e14, e13, e12, e11, e10]
      exact (((((sI _ _ _).tr (sI _ _ _)).tr (sI _ _ _)).tr (sI _ _ _)).tr (sI _ _ _)).tr (sI _ _ _)
    have s15 : cSt h15 W I := by
      refine s7.up (wSm.fr f (fun x k z e => wcI_line hS7 s7.1 (Nat.le_refl _) r7 tl l93 z e)) (s7.1.2.2.2.2.2.2.2.2.2.1.kp f.1) (s7.2.2.2.kp f.1) (fun v r tv hv q1 q2 => ?_)
      rw [f.1.2.1] at tv
      have ap := ap68 hS7 tl tv
      have n1 : v + 1 ≠ lid := fun e => ap 0 1 (by omega) (by omega) (by omega)
      have n2 : v + 2 ≠ lid := fun e => ap 0 2 (by omega) (by omega) (by omega)
      rw [f.2 _ _ n1, f.2 _ _ n2]
      exact s7.2.2.1 v r tv hv q1 q2
    have e28 : mI h15 28 1 + 1 = nI (wl W + 1) := by rw [s15.1.2.2.2.2.2.2.1.1, nI_1]
    rw [e28] at e16
    have r15 : mR h15 29 (wl W) = some lid := by rw [f.1.2.2.2]; exact r7
    rw [e16]
    refine K _ (sk_SI (f.1.sk hS7)) ((l7.tr (f.lk.wk (fun x k hx z => by omega))).tr (lwK.SI (fun _ => ⟨rfl, rfl⟩))) (by show mN h15 ≤ _; rw [f.1.1]; exact n7) mI_SI_s (cSt.line s15 h12 r15 okl rfl ?_ ?_ ?_ ?_ ?_ ?_)
    · rw [e15, mI_SI_k (by omega), e14, mI_SI_k (by omega), e13, mI_SI_k (by omega), e12, mI_SI_k (by omega), e11, mI_SI_k (by omega), e10, mI_SI_s]; exact ev1
    · rw [e15, mI_SI_k (by omega), e14, mI_SI_k (by omega), e13, mI_SI_k (by omega), e12, mI_SI_k (by omega), e11, mI_SI_s]; exact ev2
    · rw [e15, mI_SI_k (by omega), e14, mI_SI_k (by omega), e13, mI_SI_k (by omega), e12, mI_SI_s]; exact ev3
    · rw [e15, mI_SI_k (by omega), e14, mI_SI_k (by omega), e13, mI_SI_s]; exact ev4
    · rw [e15, mI_SI_k (by omega), e14, mI_SI_s]; exact ev5
    · rw [e15, mI_SI_s]
  refine qX6_add v1 v2 v3 v4 v5 hS ⟨fun _ => ⟨by rw [e1]; exact vp_in_nI h12 (by omega), fun z h3 e3 => ?_, fun y2 z => ?_⟩, fun z => absurd (by rw [e1]; exact nI_lt (b := 12) h12 (by omega)) z⟩
  · rw [e1, nI_clamp (by omega)] at z ⊢
    refine c5_init hS e3 (fun h5 g5 hS5 nw5 n5 t5 => ⟨rfl, hS5, t5, vp_in_nI h12 (by omega), fun h7 e7 => ?_⟩)
    have s5 := st.gr hS hS5 g5 nw5
    have h93 : 93 ≤ mN h := Nat.le_of_succ_le hS.2.2.1.1
    have hS7 : mSk h7 := by rw [e7]; exact sk_SR hS5 (skT_29 hS5) (sk_CFbig (by omega))
    have fresh : ∀ i a, mR h5 29 i = some a → a ≠ mN h := fun i a q e => by
      rw [(g5.2 29 (by omega)).2.2.1] at q
      have := (st.2.2.2.1 i a q).1
      have := tag_lt hS (a := a) (by omega)
      omega
    have r29 : ∀ i, mR h7 29 i = if i = wl W then some (mN h) else mR h5 29 i := fun i => by
      rw [e7, mR_SR]
      by_cases q : i = wl W
      · rw [if_pos ⟨rfl, q⟩, if_pos q]
      · rw [if_neg (fun t => q t.2), if_neg q]
    have ro : ∀ x k, x ≠ 29 → mR h7 x k = mR h5 x k := fun x k q => by rw [e7, mR_SR, if_neg (fun t => q t.1)]
    have t6 : ∀ a, mT h5 a = 6 → a + 1 ≠ 29 := fun a q e => by
      have e2 : a = 28 := by omega
      rw [e2, skT_28 hS5] at q; omega
    have s7 : cSt h7 W I := by
      refine s5.up ⟨fun a _ => by rw [e7]; rfl, fun x k z => ?_, fun x k z => by rw [e7]; rfl⟩ ⟨fun i j a q1 q2 => ?_, fun a a' k k' v q1 q2 q3 q4 => ?_⟩ ⟨fun i lid q => ?_, fun a k v q1 q2 => ?_⟩ (fun v r tv hv q1 q2 => ?_)
      · rcases z with z | z | z | ⟨i, lid, z1, z2, z3, z4⟩
        · exact ro _ _ (by omega)
        · exact ro _ _ (by omega)
        · rw [z.1, r29, if_neg (by omega)]
        · exact ro _ _ (by rw [z3]; exact t6 _ (s5.2.2.2.1 _ _ z2).1)
      · rw [r29] at q1 q2
        by_cases c1 : i = wl W
        · by_cases c2 : j = wl W
          · omega
          · rw [if_pos c1] at q1; rw [if_neg c2] at q2
            cases q1
            exact absurd rfl (fresh j _ q2)
        · rw [if_neg c1] at q1
          by_cases c2 : j = wl W
          · rw [if_pos c2] at q2
            cases q2
            exact absurd rfl (fresh i _ q1)
          · rw [if_neg c2] at q2
            exact s5.1.2.2.2.2.2.2.2.2.2.1.1 i j a q1 q2
      · have q1' : mT h5 a = 6 := by rw [e7] at q1; exact q1
        have q2' : mT h5 a' = 6 := by rw [e7] at q2; exact q2
        rw [ro _ _ (t6 _ q1')] at q3
        rw [ro _ _ (t6 _ q2')] at q4
        exact s5.1.2.2.2.2.2.2.2.2.2.1.2 a a' k k' v q1' q2' q3 q4
      · have tt : mT h7 = mT h5 := by rw [e7]; rfl
        rw [tt]
        rw [r29] at q
        by_cases c1 : i = wl W
        · rw [if_pos c1] at q
          cases q
          exact ⟨t5, h93⟩
        · rw [if_neg c1] at q
          exact s5.2.2.2.1 i lid q
      · have q1' : mT h5 a = 6 := by rw [e7] at q1; exact q1
        rw [ro _ _ (t6 _ q1')] at q2
        have tt : mT h7 = mT h5 := by rw [e7]; rfl
        rw [tt]
        exact s5.2.2.2.2 a k v q1' q2
      · have tv' : mT h5 v = 8 := by rw [e7] at tv; exact tv
        have := s5.2.2.1 v r tv' hv q1 q2
        rw [e7]; exact this
    have e28 : mI h7 28 1 = nI (wl W) := s7.1.2.2.2.2.2.2.1.1
    rw [e28, nI_clamp (by omega)]
    have r7 : mR h7 29 (wl W) = some (mN h) := by rw [r29, if_pos rfl]
    exact ⟨vp_in_nI h12 (by omega), mN h, r7, by rw [e7]; exact t5, fin h7 (mN h) hS7 ((g5.lk hS).tr (by rw [e7]; exact lwK.SR (by omega))) (by rw [e7]; show mN h5 ≤ _; omega) s7 r7⟩
  · rw [e1, nI_clamp (by omega)] at z ⊢
    have t6 := (st.2.2.2.1 _ _ z).1
    exact ⟨t6, vp_in_nI h12 (by omega), y2, z, t6, fin h y2 hS lwK.rf (by omega) st z⟩
theorem c11_line (v1 v2 v3 v4 v5 : Int32) {W : aW} {I : Nat → Nat} (hS : mSk h) (st : cSt h W I) (K1 : ¬ (okLn v1 v2 v3 v4 v5 ∧ wl W < 12) → Q (some (.inl (-1))) h)
    (K2 : okLn v1 v2 v3 v4 v5 → wl W < 12 → ∀ h', mSk h' → lwK (fun x k => aLn x k ∨ (x = 8 ∧ k = 7)) h h' → mN h' ≤ mN h + 2 → mI h' 8 7 = mI h 8 7 + 1 → cSt h' (wLine W (lnA v1 v2 v3 v4 v5)) I → Q (some (.inl (nI (wl W)))) h') : mC G kX11_line (d + 3) (b1 + 2, b2 + 13) [.inr (some 8), .inl v1, .inl v2, .inl v3, .inl v4, .inl v5] h Q := by
  have e1 := st.1.2.2.2.2.2.2.1.1
  have hl12 := st.1.2.2.2.2.2.2.1.2.1
  refine qX11_line v1 v2 v3 v4 v5 hS (fun w1 hw1 w2 hw2 => ⟨fun z => K1 (fun u => ?_), fun z => ⟨fun y => ?_, fun y => K1 (fun u => ?_)⟩⟩)
  · obtain ⟨⟨o1, o2, o3, o4, o5⟩, -⟩ := u
    rw [if_neg o1, if_neg o2] at hw1
    rw [hw1, if_neg (by decide), if_neg o3, if_neg o4, if_neg o5] at hw2
    rw [hw2] at z
    exact absurd z (by decide)
  · have hlt : wl W < 12 := by rw [e1, show (12 : Int32) = nI 12 from rfl, nI_ltI (by omega) (by omega)] at y; exact y
    have ok : okLn v1 v2 v3 v4 v5 := by
      by_cases o1 : f_X11_within v1 (-9) 9 = 0
      · rw [if_pos o1] at hw1; rw [hw1, if_pos rfl] at hw2; exact absurd hw2 z
      · rw [if_neg o1] at hw1
        by_cases o2 : f_X11_within v2 (-9) 9 = 0
        · rw [if_pos o2] at hw1; rw [hw1, if_pos rfl] at hw2; exact absurd hw2 z
        · rw [if_neg o2] at hw1
          rw [hw1, if_neg (by decide)] at hw2
          refine ⟨o1, o2, fun q => z ?_, fun q => z ?_, fun q => z ?_⟩
          · rw [hw2, if_pos q]
          · rw [hw2, if_pos q]; split <;> rfl
          · rw [hw2, if_pos q]; split <;> first | rfl | (split <;> rfl)
    refine c6_add (b1 := 0) (b2 := 0) v1 v2 v3 v4 v5 hS st hlt ok (fun h3 hS3 l3 n3 e3 s3 => ⟨rfl, hS3, fun h4 e4 => ?_⟩)
    have e4' : mI h4 28 1 - 1 = nI (wl W) := by rw [e4, mI_SI_a (by omega), e3]; exact nI_pred _
    rw [e4']
    refine K2 ok hlt h4 (by rw [e4]; exact sk_SI hS3) ((l3.wk (fun x k _ z => Or.inl z)).tr (by rw [e4]; exact lwK.SI (fun _ => Or.inr ⟨rfl, rfl⟩))) (by rw [e4]; exact n3) (by rw [e4, mI_SI_s, l3.1 8 7 (by omega) (fun z => by unfold aLn at z; omega)]) ?_
    have f : mFr2 (fun x k => x = 8 ∧ k = 7) h3 h4 := by rw [e4]; exact mFr2.SI ⟨rfl, rfl⟩
    refine s3.up (wSm.fr f (fun x k z e => ?_)) (s3.1.2.2.2.2.2.2.2.2.2.1.kp f.1) (s3.2.2.2.kp f.1) (fun v r tv hv q1 q2 => ?_)
    · rcases z with z | ⟨c, j, z1, z2, z3⟩ | z | z | z | z | z | z | ⟨i, lid, q1, q2, q3⟩
      · omega
      · have := (s3.1.2.1 c z1).1; omega
      · omega
      · omega
      · omega
      · omega
      · omega
      · omega
      · have t := (s3.2.2.2.1 _ _ q2)
        rcases q3 with q3 | ⟨k', v, r1, r2, r3⟩
        · omega
        · have := s3.2.2.2.2 lid k' v t.1 r2
          omega
    · rw [f.1.2.1] at tv
      rw [f.2 _ _ (fun e => by omega), f.2 _ _ (fun e => by omega)]
      exact s3.2.2.1 v r tv hv q1 q2
  · have := u.2
    exact y (by rw [e1, show (12 : Int32) = nI 12 from rfl, nI_ltI (by omega) (by omega)]; exact this)
theorem m_line (v1 v2 v3 v4 v5 : Int32) {W : aW} (hS : mSk h) (hW : mWo h W) (K1 : ¬ (okLn v1 v2 v3 v4 v5 ∧ wl W < 12) → Q (some (.inl (-1))) h)
    (K2 : okLn v1 v2 v3 v4 v5 → wl W < 12 → ∀ h', mFr2 (fun x k => (69 ≤ x ∧ x ≤ 74) ∨ (x = 47 ∧ k = 33)) h h' → mWo h' (wLine W (lnA v1 v2 v3 v4 v5)) → Q (some (.inl (nI (wl W)))) h') : mC G kX12_line (d + 1) b [.inr (some 47), .inl v1, .inl v2, .inl v3, .inl v4, .inl v5] h Q := by
  obtain ⟨w1, w2, w3, w4, ⟨w5a, w5b, w5c⟩, w6, w7, w8⟩ := hW
  refine qX12_line v1 v2 v3 v4 v5 hS ?_
  rw [f_in_eq, f_in_eq, f_in_eq, f_air]
  refine ⟨fun z => K1 (fun u => u.1.1 z), fun o1 => ⟨fun z => K1 (fun u => u.1.2.1 z), fun o2 => ⟨fun z => K1 (fun u => u.1.2.2.1 z), fun o3 => ⟨fun z => K1 (fun u => z.elim u.1.2.2.2.1 u.1.2.2.2.2), fun o4 => ⟨fun z => ?_, fun z => K1 (fun u => ?_)⟩⟩⟩⟩⟩
  · have ok : okLn v1 v2 v3 v4 v5 := ⟨o1, o2, o3, fun q => o4 (Or.inl q), fun q => o4 (Or.inr q)⟩
    have h12 : wl W < 12 := by
      rw [w5a, show (12 : Int32) = nI 12 from rfl, nI_eq (by omega) (by omega)] at z; omega
    obtain ⟨okl, ev1, ev2, ev3, ev4, ev5⟩ := okLn_li (wm W) ok
    have vv := vp_in_nI h12 (N := 12) (by omega)
    have cl := nI_clamp (n := wl W) (by omega)
    have st : ∀ {hh : mH} {a : Nat} {v : Int32}, a ≠ 47 → mI hh 47 33 = nI (wl W) → mI (mSI hh a (wl W) v) 47 33 = nI (wl W) := fun ha e => by rw [mI_SI_a (Ne.symm ha)]; exact e
    rw [w5a, cl]
    refine ⟨vv, fun h2 e2 => ?_⟩
    have n2 : mI h2 47 33 = nI (wl W) := by rw [e2]; exact st (by decide) w5a
    rw [n2, cl]
    refine ⟨vv, fun h4 e4 => ?_⟩
    have n4 : mI h4 47 33 = nI (wl W) := by rw [e4]; exact st (by decide) n2
    rw [n4, cl]
    refine ⟨vv, fun h6 e6 => ?_⟩
    have n6 : mI h6 47 33 = nI (wl W) := by rw [e6]; exact st (by decide) n4
    rw [n6, cl]
    refine ⟨vv, fun h8 e8 => ?_⟩
    have n8 : mI h8 47 33 = nI (wl W) := by rw [e8]; exact st (by decide) n6
    rw [n8, cl]
    refine ⟨vv, fun h10 e10 => ?_⟩
    have n10 : mI h10 47 33 = nI (wl W) := by rw [e10]; exact st (by decide) n8
    rw [n10, cl]
    refine ⟨vv, fun h12' e12 h13 e13 => ?_⟩
    have n12 : mI h12' 47 33 = nI (wl W) := by rw [e12]; exact st (by decide) n10
    rw [n12, nI_1] at e13
    have e13' : mI h13 47 33 - 1 = nI (wl W) := by rw [e13, mI_SI_s]; exact nI_pred _
    rw [e13']
    have f : mFr2 (fun x k => ((69 ≤ x ∧ x ≤ 74) ∧ k = wl W) ∨ (x = 47 ∧ k = 33)) h h13 := by
      have sI : ∀ hh a v, 69 ≤ a ∧ a ≤ 74 → mFr2 (fun x k => ((69 ≤ x ∧ x ≤ 74) ∧ k = wl W) ∨ (x = 47 ∧ k = 33)) hh (mSI hh a (wl W) v) := fun hh a v q => mFr2.SI (Or.inl ⟨q, rfl⟩)
      have sJ : ∀ hh v, mFr2 (fun x k => ((69 ≤ x ∧ x ≤ 74) ∧ k = wl W) ∨ (x = 47 ∧ k = 33)) hh (mSI hh 47 33 v) := fun hh v => mFr2.SI (Or.inr ⟨rfl, rfl⟩)
      rw [e13, e12, e10, e8, e6, e4, e2]
      exact ((((((sI _ _ _ (by omega)).tr (sI _ _ _ (by omega))).tr (sI _ _ _ (by omega))).tr (sI _ _ _ (by omega))).tr (sI _ _ _ (by omega))).tr (sI _ _ _ (by omega))).tr (sJ _ _)
    refine K2 ok h12 h13 (f.wk (fun x k z => by omega)) ⟨?_, ?_, ?_, w4, ⟨by rw [e13, mI_SI_s]; rfl, by show wl W + 1 ≤ 12; omega, fun i hi => ?_⟩, ?_, ?_, w8⟩
    · exact mCh.fr f (fun a k q1 q2 z => by omega) (fun z => by omega) w1
    · exact soM.fr f (fun a k q1 q2 z => by omega) (fun z => by omega) w2
    · exact lwM.fr f (fun a k q z => by omega) w3
    · by_cases e : i = wl W
      · subst e
        rw [wLine_n]
        refine ⟨⟨?_, ?_, ?_, ?_, ?_, ?_, fun k hk => absurd hk (Nat.not_lt_zero _)⟩, okl⟩
        · rw [e13, mI_SI_a (by omega), e12, mI_SI_a (by omega), e10, mI_SI_a (by omega), e8, mI_SI_a (by omega), e6, mI_SI_a (by omega), e4, mI_SI_a (by omega), e2, mI_SI_s]; exact ev1
        · rw [e13, mI_SI_a (by omega), e12, mI_SI_a (by omega), e10, mI_SI_a (by omega), e8, mI_SI_a (by omega), e6, mI_SI_a (by omega), e4, mI_SI_s]; exact ev2
        · rw [e13, mI_SI_a (by omega), e12, mI_SI_a (by omega), e10, mI_SI_a (by omega), e8, mI_SI_a (by omega), e6, mI_SI_s]; exact ev3
        · rw [e13, mI_SI_a (by omega), e12, mI_SI_a (by omega), e10, mI_SI_a (by omega), e8, mI_SI_s]; exact ev4
        · rw [e13, mI_SI_a (by omega), e12, mI_SI_a (by omega), e10, mI_SI_s]; exact ev5
        · rw [e13, mI_SI_a (by omega), e12, mI_SI_s]; rfl
      · have hi2 : i < wl W := by have : i < wl W + 1 := hi; omega
        rw [wLine_J e]
        obtain ⟨⟨g0, g1, g2, g3, g4, g5, g6⟩, okl2⟩ := w5c i hi2
        have nn : ∀ a, 69 ≤ a → a ≤ 74 → mI h13 a i = mI h a i := fun a q1 q2 => f.2 _ _ (fun z => by omega)
        refine ⟨⟨by rw [nn _ (by omega) (by omega)]; exact g0, by rw [nn _ (by omega) (by omega)]; exact g1, by rw [nn _ (by omega) (by omega)]; exact g2, by rw [nn _ (by omega) (by omega)]; exact g3, by rw [nn _ (by omega) (by omega)]; exact g4, by rw [nn _ (by omega) (by omega)]; exact g5, fun k hk => ?_⟩, okl2⟩
        obtain ⟨p1, p2, p3⟩ := g6 k hk
        have nm : ∀ a k', 75 ≤ a → a ≤ 77 → mI h13 a k' = mI h a k' := fun a k' q1 q2 => f.2 _ _ (fun z => by omega)
        exact ⟨by rw [nm _ _ (by omega) (by omega)]; exact p1, by rw [nm _ _ (by omega) (by omega)]; exact p2, by rw [nm _ _ (by omega) (by omega)]; exact p3⟩
    · obtain ⟨⟨b1, b2, b3, b4⟩, o⟩ := w6
      exact ⟨⟨by rw [f.2 _ _ (fun z => by omega)]; exact b1, by rw [f.2 _ _ (fun z => by omega)]; exact b2, by rw [f.2 _ _ (fun z => by omega)]; exact b3, by rw [f.2 _ _ (fun z => by omega)]; exact b4⟩, o⟩
    · rw [f.2 _ _ (fun z => by omega)]; exact w7
  · have := u.2
    rw [w5a, show (12 : Int32) = nI 12 from rfl, nI_eq (by omega) (by omega)] at z; omega
end
