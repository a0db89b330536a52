/-! the world stays where its cells stay -/
def wcR (h : mH) (W : aW) : Nat → Nat → Prop := fun x k => (x = 11 ∧ k = 5) ∨ (x = 34 ∧ k < wn W) ∨ (x = 29 ∧ k < wl W) ∨ ∃ i lid, i < wl W ∧ mR h 29 i = some lid ∧ x = lid + 1 ∧ k < jN (wJ W i)
def wcI (h : mH) (W : aW) (I : Nat → Nat) : Nat → Nat → Prop := fun x k => (x = 33 ∧ k = 1) ∨ (∃ c j, c < wn W ∧ j ≤ 8 ∧ x = I c + j) ∨ (x = 11 ∧ k = 4) ∨ (12 ≤ x ∧ x ≤ 15) ∨ (17 ≤ x ∧ x ≤ 19) ∨ (22 ≤ x ∧ x ≤ 24) ∨ ((x = 16 ∨ x = 21) ∧ k = 5) ∨ (x = 28 ∧ 1 ≤ k ∧ k ≤ 5) ∨ ∃ i lid, i < wl W ∧ mR h 29 i = some lid ∧ (x = lid ∨ ∃ k' v, k' < jN (wJ W i) ∧ mR h (lid + 1) k' = some v ∧ (x = v ∨ x = v + 1 ∨ x = v + 2))
def wSm (h h' : mH) (W : aW) (I : Nat → Nat) : Prop := (∀ a, mT h a ≠ 0 → mT h' a = mT h a) ∧ (∀ x k, wcR h W x k → mR h' x k = mR h x k) ∧ ∀ x k, wcI h W I x k → mI h' x k = mI h x k
theorem wSm.fr {A : Nat → Nat → Prop} {h h' : mH} {W : aW} {I : Nat → Nat} (f : mFr2 A h h') (hA : ∀ x k, wcI h W I x k → ¬ A x k) : wSm h h' W I := ⟨fun a _ => by rw [f.1.2.1], fun x k _ => by rw [f.1.2.2.2], fun x k z => f.2 _ _ (hA x k z)⟩
theorem wSm.tr {h1 h2 h3 : mH} {W : aW} {I : Nat → Nat} (a : wSm h1 h2 W I) (b : wSm h2 h3 W I) : wSm h1 h3 W I := by
  obtain ⟨a1, a2, a3⟩ := a
  obtain ⟨b1, b2, b3⟩ := b
  have cR : ∀ x k, wcR h1 W x k → wcR h2 W x k := fun x k z => by
    rcases z with z | z | z | ⟨i, lid, q1, q2, q3, q4⟩
    · exact Or.inl z
    · exact Or.inr (Or.inl z)
    · exact Or.inr (Or.inr (Or.inl z))
    · exact Or.inr (Or.inr (Or.inr ⟨i, lid, q1, by rw [a2 _ _ (Or.inr (Or.inr (Or.inl ⟨rfl, q1⟩)))]; exact q2, q3, q4⟩))
  have cI : ∀ x k, wcI h1 W I x k → wcI h2 W I x k := fun x k z => by
    rcases z with z | z | z | z | z | z | z | z | ⟨i, lid, q1, q2, q3⟩
    · exact Or.inl z
    · exact Or.inr (Or.inl z)
    · exact Or.inr (Or.inr (Or.inl z))
    · exact Or.inr (Or.inr (Or.inr (Or.inl z)))
    · exact Or.inr (Or.inr (Or.inr (Or.inr (Or.inl z))))
    · exact Or.inr (Or.inr (Or.inr (Or.inr (Or.inr (Or.inl z)))))
    · exact Or.inr (Or.inr (Or.inr (Or.inr (Or.inr (Or.inr (Or.inl z))))))
    · exact Or.inr (Or.inr (Or.inr (Or.inr (Or.inr (Or.inr (Or.inr (Or.inl z)))))))
    · refine Or.inr (Or.inr (Or.inr (Or.inr (Or.inr (Or.inr (Or.inr (Or.inr ⟨i, lid, q1, ?_, ?_⟩)))))))
      · rw [a2 _ _ (Or.inr (Or.inr (Or.inl ⟨rfl, q1⟩)))]; exact q2
      · rcases q3 with q3 | ⟨k', v, r1, r2, r3⟩
        · exact Or.inl q3
        · refine Or.inr ⟨k', v, r1, ?_, r3⟩
          rw [a2 _ _ (Or.inr (Or.inr (Or.inr ⟨i, lid, q1, q2, rfl, r1⟩)))]; exact r2
  refine ⟨fun a ha => ?_, fun x k z => (b2 x k (cR x k z)).trans (a2 x k z), fun x k z => (b3 x k (cI x k z)).trans (a3 x k z)⟩
  have := a1 a ha
  rw [b1 a (by rw [this]; exact ha)]; exact this
theorem cCo.eq {h h' : mH} {a : Nat} {C : aCo} (t : mT h' a = mT h a) (e : ∀ j k, j ≤ 8 → mI h' (a + j) k = mI h (a + j) k) (hC : cCo h a C) : cCo h' a C := by
  obtain ⟨t1, ⟨c1, c2⟩, ok, la, sw⟩ := hC
  refine ⟨by rw [t]; exact t1, ⟨(e 0 1 (by omega)).trans c1, fun i hi => ?_⟩, ok, fun x y hx hy => ?_, fun q hq n0 x y hx hy => ?_⟩
  · rw [e 6 i (by omega), e 7 i (by omega), e 8 i (by omega)]; exact c2 i hi
  · rw [e 1 y (by omega), e 2 x (by omega)]; exact la x y hx hy
  · rw [e 4 q (by omega)] at n0
    rw [e 3 _ (by omega)]; exact sw q hq n0 x y hx hy
theorem soX.eq {h h' : mH} {m : Nat} {U : aSo} (e : mI h' 11 4 = mI h 11 4) (e2 : ∀ a k, 12 ≤ a → a ≤ 15 → mI h' a k = mI h a k) (hU : soX h m U) : soX h' m U := by
  obtain ⟨u1, u2, u3⟩ := hU
  refine ⟨by rw [e]; exact u1, u2, fun i hi => ?_⟩
  rw [e2 12 i (by omega) (by omega), e2 13 i (by omega) (by omega), e2 14 i (by omega) (by omega), e2 15 i (by omega) (by omega)]
  exact u3 i hi
theorem lwX.eq {h h' : mH} {L : aLw} (eR : mR h' 11 5 = mR h 11 5) (e : ∀ a k, (a = 17 ∨ a = 18 ∨ a = 19 ∨ a = 22 ∨ a = 23 ∨ a = 24 ∨ ((a = 16 ∨ a = 21) ∧ k = 5)) → mI h' a k = mI h a k) (hl : lwX h L) : lwX h' L := by
  obtain ⟨l, l1, l2, l3, l4, l5⟩ := hl
  refine ⟨l, l1, by rw [eR]; exact l2, by rw [e l 5 (by omega)]; exact l3, fun q hq => by rw [e (l + 2) q (by omega)]; exact l4 q hq, fun q hq => ⟨by rw [e (l + 3) q (by omega)]; exact (l5 q hq).1, fun p hp => ?_⟩⟩
  rw [e (l + 1) p (by omega)]; exact (l5 q hq).2 p hp
set_option maxHeartbeats 1000000 in
theorem cWo.up {h h' : mH} {W : aW} {I : Nat → Nat} (s : wSm h h' W I) (ij : injX h') (hW : cWo h W I) : cWo h' W I := by
  obtain ⟨h1, h2, h3, h4, h5, h6, h7, h8, h9, h10, h11⟩ := hW
  obtain ⟨sT, sR, sI⟩ := s
  have e28 : ∀ k, 1 ≤ k → k ≤ 5 → mI h' 28 k = mI h 28 k := fun k q1 q2 => sI _ _ (by unfold wcI; omega)
  have rl : ∀ i, i < wl W → mR h' 29 i = mR h 29 i := fun i hi => sR _ _ (Or.inr (Or.inr (Or.inl ⟨rfl, hi⟩)))
  have cI9 : ∀ i lid x k, i < wl W → mR h 29 i = some lid → (x = lid ∨ ∃ k' v, k' < jN (wJ W i) ∧ mR h (lid + 1) k' = some v ∧ (x = v ∨ x = v + 1 ∨ x = v + 2)) → mI h' x k = mI h x k := fun i lid x k q1 q2 q3 => sI _ _ (Or.inr (Or.inr (Or.inr (Or.inr (Or.inr (Or.inr (Or.inr (Or.inr ⟨i, lid, q1, q2, q3⟩))))))))
  refine ⟨⟨?_, h1.2.1, fun c hc => ⟨?_, ?_⟩⟩, fun c hc => ⟨(h2 c hc).1, ?_⟩, h3, ?_, ?_, h6, ⟨?_, h7.2.1, fun i hi => ⟨?_, (h7.2.2 i hi).2⟩⟩, ⟨?_, h8.2⟩, ?_, ij, ?_⟩
  · rw [sI 33 1 (Or.inl ⟨rfl, rfl⟩)]; exact h1.1
  · rw [sR 34 c (Or.inr (Or.inl ⟨rfl, hc⟩))]; exact (h1.2.2 c hc).1
  · refine cCo.eq (sT _ (by rw [(h1.2.2 c hc).2.1]; decide)) (fun j k hj => sI _ _ (Or.inr (Or.inl ⟨c, j, hc, hj, rfl⟩))) (h1.2.2 c hc).2
  · rw [sI (I c) 0 (Or.inr (Or.inl ⟨c, 0, hc, by omega, rfl⟩))]; exact (h2 c hc).2
  · exact soX.eq (sI _ _ (by unfold wcI; omega)) (fun a k q1 q2 => sI _ _ (by unfold wcI; omega)) h4
  · exact lwX.eq (sR _ _ (Or.inl ⟨rfl, rfl⟩)) (fun a k q => sI _ _ (by unfold wcI; omega)) h5
  · rw [e28 1 (by omega) (by omega)]; exact h7.1
  · obtain ⟨lid, r1, t6, g93, g0, g1, g2, g3, g4, g5, g6⟩ := (h7.2.2 i hi).1
    have nl : ∀ k, mI h' lid k = mI h lid k := fun k => cI9 i lid _ _ hi r1 (Or.inl rfl)
    refine ⟨lid, by rw [rl i hi]; exact r1, by rw [sT _ (by rw [t6]; decide)]; exact t6, g93, by rw [nl]; exact g0, by rw [nl]; exact g1, by rw [nl]; exact g2, by rw [nl]; exact g3, by rw [nl]; exact g4, by rw [nl]; exact g5, fun k hk => ?_⟩
    obtain ⟨v, v1, v2, v3, v4, v5, v6, v7⟩ := g6 k hk
    have nv : ∀ k', mI h' v k' = mI h v k' := fun k' => cI9 i lid _ _ hi r1 (Or.inr ⟨k, v, hk, v1, Or.inl rfl⟩)
    exact ⟨v, by rw [sR _ _ (Or.inr (Or.inr (Or.inr ⟨i, lid, hi, r1, rfl, hk⟩)))]; exact v1, v2, by rw [sT _ (by rw [v3]; decide)]; exact v3, by rw [nv]; exact v4, by rw [nv]; exact v5, by rw [nv]; exact v6, by rw [nv]; exact v7⟩
  · rw [e28 2 (by omega) (by omega)]; exact h8.1
  · obtain ⟨⟨q1, q2, q3⟩, q4⟩ := h9
    refine ⟨⟨?_, ?_, fun x hx => ?_⟩, q4⟩
    · rw [e28 3 (by omega) (by omega)]; exact q1
    · rw [e28 4 (by omega) (by omega)]; exact q2
    · rw [e28 5 (by omega) (by omega)]; exact q3 x hx
  · intro i lid k v hi hl hk hv c y hc hy x hx
    rw [rl i hi] at hl
    rw [sR _ _ (Or.inr (Or.inr (Or.inr ⟨i, lid, hi, hl, rfl, hk⟩)))] at hv
    rw [cI9 i lid (v + 1) _ hi hl (Or.inr ⟨k, v, hk, hv, Or.inr (Or.inl rfl)⟩), cI9 i lid (v + 2) _ hi hl (Or.inr ⟨k, v, hk, hv, Or.inr (Or.inr rfl)⟩)]
    exact h11 i lid k v hi hl hk hv c y hc hy x hx
theorem rch.eq {h h' : mH} {a : Nat} {W : aW} {c ld nd : Nat} (e : ∀ j k, j ≤ 8 → mI h' (a + j) k = mI h (a + j) k) (r : rch h a W c ld nd) : rch h' a W c ld nd := by
  obtain ⟨r1, r2, r3, r4, r5, r6⟩ := r
  refine ⟨(e 0 10 (by omega)).trans r1, (e 0 11 (by omega)).trans r2, r3, r4, fun i hi w x y q1 q2 q3 => ?_, fun i hi w x y q1 q2 q3 => ?_⟩
  · rw [e 5 _ (by omega)]; exact r5 i hi w x y q1 q2 q3
  · rw [e 5 _ (by omega)]; exact r6 i hi w x y q1 q2 q3
theorem cSt.up {h h' : mH} {W : aW} {I : Nat → Nat} (s : wSm h h' W I) (ij : injX h') (ty : tyX h') (kz : kcZ h' W) (st : cSt h W I) : cSt h' W I :=
  ⟨st.1.up s ij, fun c hc => by
    obtain ⟨ld, nd, r⟩ := st.2.1 c hc
    exact ⟨ld, nd, r.eq (fun j k hj => s.2.2 _ _ (Or.inr (Or.inl ⟨c, j, hc, hj, rfl⟩)))⟩, kz, ty⟩
/-- world cells are old cells -/
theorem wcI_lt {h : mH} {W : aW} {I : Nat → Nat} (hS : mSk h) (hW : cWo h W I) {x k : Nat} (z : wcI h W I x k) : x < mN h := by
  have h93 := hS.2.2.1.1
  rcases z with z | ⟨c, j, z1, z2, z3⟩ | z | z | z | z | z | z | ⟨i, lid, q1, q2, q3⟩
  · omega
  · have ta := (hW.1.2.2 c z1).2.1
    rw [z3]
    by_cases j0 : j = 0
    · subst j0; exact tag_lt hS (by show mT h (I c) ≠ 0; rw [ta]; decide)
    · refine tag_lt hS (fun e => ?_)
      rcases skB2 hS ta j (by omega) z2 with q | q <;> omega
  · omega
  · omega
  · omega
  · omega
  · omega
  · omega
  · obtain ⟨lid', r1, t6, g93, -, -, -, -, -, -, g6⟩ := (hW.2.2.2.2.2.2.1.2.2 i q1).1
    rw [q2] at r1
    cases r1
    rcases q3 with q3 | ⟨k', v, r1, r2, r3⟩
    · rw [q3]; exact tag_lt hS (by rw [t6]; decide)
    · obtain ⟨v', v1, v2, v3, -⟩ := g6 k' r1
      rw [r2] at v1
      cases v1
      rcases r3 with r3 | r3 | r3
      · rw [r3]; exact tag_lt hS (by rw [v3]; decide)
      · rw [r3]; exact tag_lt hS (by rw [skB8 hS v3 1 (by omega) (by omega)]; decide)
      · rw [r3]; exact tag_lt hS (by rw [skB8 hS v3 2 (by omega) (by omega)]; decide)
theorem wcR_lt {h : mH} {W : aW} {I : Nat → Nat} (hS : mSk h) (hW : cWo h W I) {x k : Nat} (z : wcR h W x k) : x < mN h := by
  have h93 := hS.2.2.1.1
  rcases z with z | z | z | ⟨i, lid, q1, q2, q3, q4⟩
  · omega
  · omega
  · omega
  · obtain ⟨lid', r1, t6, -⟩ := (hW.2.2.2.2.2.2.1.2.2 i q1).1
    rw [q2] at r1
    cases r1
    rw [q3]; exact tag_lt hS (by rw [skB6 hS t6]; decide)
theorem cSt.gr {h h' : mH} {W : aW} {I : Nat → Nat} (hS : mSk h) (hS' : mSk h') (g : mGr h h') (nw : nwX h h') (st : cSt h W I) : cSt h' W I := by
  have s : wSm h h' W I := ⟨fun a ha => (g.2 a (tag_lt hS ha)).1, fun x k z => by rw [(g.2 x (wcR_lt hS st.1 z)).2.2.1], fun x k z => by rw [(g.2 x (wcI_lt hS st.1 z)).2.2.2]⟩
  have h93 := hS.2.2.1.1
  have r29 : ∀ i, mR h' 29 i = mR h 29 i := fun i => by rw [(g.2 29 (by omega)).2.2.1]
  have t6 : ∀ a, mT h' a = 6 → (a < mN h ∧ mT h a = 6 ∧ ∀ k, mR h' (a + 1) k = mR h (a + 1) k) ∨ ∀ k, mR h' (a + 1) k = none := fun a ha => by
    by_cases z : a < mN h
    · rw [(g.2 a z).1] at ha
      have hlt := tag_lt hS (a := a + 1) (by rw [skB6 hS ha]; decide)
      exact Or.inl ⟨z, ha, fun k => by rw [(g.2 _ hlt).2.2.1]⟩
    · exact Or.inr (fun k => nw.1 a k (by omega) ha)
  refine st.up s ⟨fun i j a q1 q2 => ?_, fun a a' k k' v q1 q2 q3 q4 => ?_⟩ ⟨fun i lid q => ?_, fun a k v q1 q2 => ?_⟩ (fun v r tv hv q1 q2 => ?_)
  · rw [r29] at q1 q2; exact st.1.2.2.2.2.2.2.2.2.2.1.1 i j a q1 q2
  · rcases t6 a q1 with ⟨z1, z2, z3⟩ | z
    · rcases t6 a' q2 with ⟨y1, y2, y3⟩ | y
      · rw [z3] at q3; rw [y3] at q4
        exact st.1.2.2.2.2.2.2.2.2.2.1.2 a a' k k' v z2 y2 q3 q4
      · rw [y] at q4; cases q4
    · rw [z] at q3; cases q3
  · rw [r29] at q
    have := st.2.2.2.1 i lid q
    exact ⟨by rw [s.1 lid (by rw [this.1]; decide)]; exact this.1, this.2⟩
  · rcases t6 a q1 with ⟨z1, z2, z3⟩ | z
    · rw [z3] at q2
      have := st.2.2.2.2 a k v z2 q2
      exact ⟨by rw [s.1 v (by rw [this.1]; decide)]; exact this.1, this.2⟩
    · rw [z] at q2; cases q2
  · by_cases z : v < mN h
    · rw [(g.2 v z).1] at tv
      have l1 := tag_lt hS (a := v + 1) (by rw [skB8 hS tv 1 (by omega) (by omega)]; decide)
      have l2 := tag_lt hS (a := v + 2) (by rw [skB8 hS tv 2 (by omega) (by omega)]; decide)
      rw [(g.2 _ l1).2.2.2, (g.2 _ l2).2.2.2]
      exact st.2.2.1 v r tv hv q1 q2
    · exact nw.2 v r (by omega) tv
