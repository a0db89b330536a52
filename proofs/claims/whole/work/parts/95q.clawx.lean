/-! a new law (class) -/
theorem lgX.lr {h h' : mH} {m n : Nat} {J : Nat → aLi} (hS : mSk h) (a : lwR (aRl h) h h') (h7 : lgX h m n J) : lgX h' m n J := by
  obtain ⟨-, sT, sR, sI⟩ := a
  refine ⟨by rw [sI 28 1 (aRl_lo (by omega) (by omega) (by omega) (by omega))]; exact h7.1, h7.2.1, fun i hi => ⟨?_, (h7.2.2 i hi).2⟩⟩
  obtain ⟨lid, r1, t6, g93, g0, g1, g2, g3, g4, g5, g6⟩ := (h7.2.2 i hi).1
  have nl : ∀ k, mI h' lid k = mI h lid k := fun k => sI _ _ (aRl_hi g93 (ne93 hS t6 (by decide)) (aHd_l hS t6))
  refine ⟨lid, by rw [sR _ _ (by omega) (by omega)]; exact r1, by rw [sT]; exact t6, g93, by rw [nl]; exact g0, by rw [nl]; exact g1, by rw [nl]; exact g2, by rw [nl]; exact g3, by rw [nl]; exact g4, by rw [nl]; exact g5, fun k hk => ?_⟩
  obtain ⟨v, v1, v2, v3, v4, v5, v6, v7⟩ := g6 k hk
  have nv : ∀ k', mI h' v k' = mI h v k' := fun k' => sI _ _ (aRl_hi v2 (ne93 hS v3 (by decide)) (aHd_n hS v3))
  exact ⟨v, by rw [sR _ _ (by omega) (by omega)]; exact v1, v2, by rw [sT]; exact v3, by rw [nv]; exact v4, by rw [nv]; exact v5, by rw [nv]; exact v6, by rw [nv]; exact v7⟩
/-- the law in use and the spare one -/
def spX (h : mH) : Prop := ∃ l l', ((l = 16 ∧ l' = 21) ∨ (l = 21 ∧ l' = 16)) ∧ mR h 11 5 = some l ∧ mR h 11 6 = some l' ∧ mI h 18 0 = 0 ∧ mI h 23 0 = 0
def okLwN (n : Nat) (v : Int32) : Prop := ∃ N, v = nI N ∧ 1 ≤ N ∧ N ≤ 160 ∧ N ≤ n
theorem wi160 {v : Int32} : ¬ f_X11_within v 1 160 = 0 ↔ ∃ N, v = nI N ∧ 1 ≤ N ∧ N ≤ 160 := by
  refine ⟨fun z => ?_, fun ⟨N, e, h1, h2⟩ => ?_⟩
  · rw [f_wi] at z
    have z' := Classical.not_not.mp z
    have z1 := Int32.le_iff_toInt_le.mp z'.1
    have z2 := Int32.le_iff_toInt_le.mp z'.2
    have c1 : (1 : Int32).toInt = 1 := by decide
    have c2 : (160 : Int32).toInt = 160 := by decide
    have c0 : (0 : Int32).toInt = 0 := by decide
    obtain ⟨q, hq, e⟩ := wi_ex (v := v) (m := 160) (by omega) (by
      rw [f_wi]
      refine fun u => u ⟨Int32.le_iff_toInt_le.mpr (by omega), z'.2⟩)
    refine ⟨q, e, ?_, hq⟩
    rw [e, nI_toI (by omega)] at z1
    omega
  · subst e
    have : ∀ N, N ≤ 160 → 1 ≤ N → ¬ (f_X11_within (nI N) 1 160) = 0 := by decide +kernel
    exact this N h2 h1
theorem an_neg : ∀ k, k < 10 → ∀ p, p < 161 → k ≠ 0 → (-1000 * nI k - nI p : Int32) < 0 := by decide +kernel
theorem an_pos : ∀ k, k < 13 → ¬ (nI k : Int32) < 0 := by decide +kernel
theorem hdB_e {L L' : aLw} {U : aSo} {C : aCo} {l : aLi} {t : aNt} {x y : Nat} (h : t.1 = true) : hdB L' U C l t x y = hdB L U C l t x y := by
  unfold hdB; rw [if_pos h, if_pos h]
section
variable {G : mG} {d : Nat} {b : Nat × Nat} {h : mH} {Q : Option mV → mH → Prop}
set_option maxHeartbeats 1000000 in
theorem c11_law (v1 : Int32) {W : aW} {I : Nat → Nat} {n : Nat} {t : Nat → Nat} (hS : mSk h) (st : cSt h W I) (tp : tpX h n t) (sp : spX h)
    (K1 : ¬ okLwN n v1 → Q (some (.inl (-1))) h)
    (K2 : ∀ N, v1 = nI N → 1 ≤ N → N ≤ 160 → N ≤ n → (lwE t N).1 ≠ 0 → ∀ h', mSk h' → lwR (aRl h) h h' → flK h h' W I → mI h' 9 1 = 0 → spX h' → cSt h' W I → Q (some (.inl (anS (lwE t N) (lwZ t N).2.1))) h')
    (K3 : ∀ N, v1 = nI N → 1 ≤ N → N ≤ 160 → N ≤ n → (lwE t N).1 = 0 → ∀ h', mSk h' → lwR (fun x k => 93 ≤ x ∨ aRl h x k ∨ (x = 8 ∧ k = 7)) h h' → mI h' 8 7 = mI h 8 7 + 1 → mI h' 9 1 = 0 → spX h' → cSt h' (wLaw W (lwT (lwZ t N).1.2 (lwZ t N).2.1)) I → Q (some (.inl (anS (lwE t N) (lwZ t N).2.1))) h') : mC G kX11_law (d + 21) b [.inr (some 8), .inl v1] h Q := by
  obtain ⟨t9, hn, htp⟩ := tp
  obtain ⟨l, l', hll, r5, r6, c18, c23⟩ := sp
  have hl : l = 16 ∨ l = 21 := by omega
  have hl' : l' = 16 ∨ l' = 21 := by omega
  refine qX11_law (d := d + 13) v1 hS ⟨fun z => K1 (fun ⟨N, e, q1, q2, q3⟩ => wi160.mpr ⟨N, e, q1, q2⟩ z), fun z => ?_⟩
  obtain ⟨N, eN, N1, N2⟩ := wi160.mp z
  rw [t9, eN, nI_leI (by omega) (by omega), r6]
  refine ⟨fun le => ?_, fun le => K1 (fun ⟨N', e, q1, q2, q3⟩ => le (by rw [eN] at e; have := nI_bk (by omega) (by omega) e; omega))⟩
  obtain ⟨E, eE⟩ : ∃ E, E = lwE t N := ⟨_, rfl⟩
  obtain ⟨Z, eZ⟩ : ∃ Z, Z = lwZ t N := ⟨_, rfl⟩
  have K2' := K2 N eN N1 N2 le
  have K3' := K3 N eN N1 N2 le
  rw [← eE, ← eZ] at K2' K3'
  refine c4_read (d := d) (l := l') hS hl' N2 ⟨t9, hn, htp⟩ (by have := N2; omega) (fun h1 h' f1 k => ⟨_, rfl, k.2.1.1, fun h3 e3 => ?_⟩)
  rw [← eE, ← eZ] at k ⊢
  obtain ⟨a1, b1, c1, d1, e1, g1⟩ := k
  -- ints and references
  have iR : ∀ x k, (x ≠ 27 ∧ x ≠ 93) → ¬ (l' ≤ x ∧ x ≤ l' + 3) → ¬ (x = 9 ∧ k = 1) → mI h3 x k = mI h x k := by
    intro x k q1 q2 q3
    rw [e3]
    rw [show mI (mSI h' 9 1 0) x k = mI h' x k from by
      by_cases w : x = 9
      · subst w; exact mI_SI_k (by omega)
      · exact mI_SI_a (by omega)]
    rw [a1.2 _ _ (by unfold aRc aRd; omega), f1.2 _ _ (by omega), mI_SR]
  have f3 : mFr2 (fun x k => x = 9 ∧ k = 1) h' h3 := by rw [e3]; exact mFr2.SI ⟨rfl, rfl⟩
  have LR : lwR (aRl h) h h3 := by
    refine ((lwR.SR (Or.inr rfl)).tr ((f1.wk (B := aRl h) (fun x k z => ?_)).lr)).tr (((a1.wk (B := aRl h) (fun x k z => ?_)).lr).tr ((f3.wk (B := aRl h) (fun x k z => Or.inr (Or.inr (Or.inl z)))).lr))
    · show aRl h x k
      rcases z with z | z | z
      · exact Or.inl (by omega)
      · exact Or.inr (Or.inl z.1)
      · exact Or.inl (Or.inr z)
    · show aRl h x k
      unfold aRc aRd at z
      by_cases w : x = 27
      · exact Or.inr (Or.inl w)
      · exact Or.inl (by omega)
  have hS3 : mSk h3 := f3.1.sk b1.1
  have R11 : ∀ k, mR h3 11 k = mR h 11 k := fun k => by rw [f3.1.2.2.2, a1.1.2.2.2, f1.1.2.2.2, mR_SR, if_neg (by omega)]
  have z18 : ∀ x, x = 18 ∨ x = 23 → mI h3 x 0 = 0 := by
    intro x hx
    have hx0 : mI h x 0 = 0 := by rcases hx with w | w <;> subst w <;> assumption
    by_cases w : x = l' + 2
    · rw [e3, mI_SI_a (by omega), w, e1, f1.2 _ _ (by omega), mI_SR, ← w]; exact hx0
    · rw [iR x 0 (by omega) (by omega) (by omega)]; exact hx0
  have t9' : mI h3 9 1 = 0 := by rw [e3, mI_SI_s]
  have b10 := b1.2.2.2.1
  have bN := b1.2.2.2.2.2
  refine ⟨fun neg => ?_, fun neg => ?_⟩
  · have e0 : E.1 ≠ 0 := by
      intro u
      unfold anS at neg
      rw [if_pos u] at neg
      have ty := lw_ty (t := t) (n := N) N2 (by rw [← eE]; exact u)
      rw [← eZ] at ty
      exact an_pos _ (by have := ty.1; omega) neg
    refine K2' e0 h3 hS3 LR ?_ t9' ⟨l, l', hll, by rw [R11]; exact r5, by rw [R11]; exact r6, z18 18 (Or.inl rfl), z18 23 (Or.inr rfl)⟩ ?_
    · exact fun c hc o => by
        have := (st.1.2.1 c hc).1
        intro i hi w x y q1 q2 q3
        rw [iR _ _ (by omega) (by omega) (by omega)]
        exact o i hi w x y q1 q2 q3
    · have kz : kcZ h3 W := fun v r tv hv q1 q2 => by
        rw [LR.2.1] at tv
        rw [iR _ _ (by omega) (by omega) (by omega), iR _ _ (by omega) (by omega) (by omega)]
        exact st.2.2.1 v r tv hv q1 q2
      have kc : kcA h3 W := by
        intro i lid k v hi hl hk hv c y hc hy x hx
        have g := (st.1.2.2.2.2.2.2.1.2.2 i hi).1
        obtain ⟨lid', w1, w6, w93, -, -, -, -, -, -, g6⟩ := g
        rw [LR.2.2.1 _ _ (by omega) (by omega)] at hl
        rw [w1] at hl; cases hl
        rw [LR.2.2.1 _ _ (by omega) (by omega)] at hv
        obtain ⟨v', v1', v2', -⟩ := g6 k hk
        rw [v1'] at hv; cases hv
        rw [iR _ _ (by omega) (by omega) (by omega), iR _ _ (by omega) (by omega) (by omega)]
        exact st.1.2.2.2.2.2.2.2.2.2.2 i lid k v hi w1 hk v1' c y hc hy x hx
      have lx : lwX h3 (wL W) := by
        obtain ⟨l0, q1, q2, q3, q4, q5⟩ := st.1.2.2.2.2.1
        have : l0 = l := by rw [r5] at q2; cases q2; rfl
        subst this
        refine ⟨l0, q1, by rw [R11]; exact q2, by rw [iR _ _ (by omega) (by omega) (by omega)]; exact q3, fun q hq => by rw [iR _ _ (by omega) (by omega) (by omega)]; exact q4 q hq, fun q hq => ⟨by rw [iR _ _ (by omega) (by omega) (by omega)]; exact (q5 q hq).1, fun p hp => by rw [iR _ _ (by omega) (by omega) (by omega)]; exact (q5 q hq).2 p hp⟩⟩
      refine ⟨cWo.lw hS LR st.1 lx st.1.2.2.2.2.2.1 kc, fun c hc => ?_, kz, st.2.2.2.lr hS LR⟩
      obtain ⟨ld, nd, r⟩ := st.2.1 c hc
      have := (st.1.2.1 c hc).1
      have n93 := ne93 hS (st.1.1.2.2 c hc).2.1 (by decide)
      exact ⟨ld, nd, r.eq (fun j k hj => iR _ _ (by omega) (by omega) (by omega))⟩
  · have e0 : E.1 = 0 := by
      refine Classical.byContradiction (fun u => neg ?_)
      unfold anS
      rw [if_neg u]
      exact an_neg _ b10 _ (by omega) u
    have ln := lw_len (t := t) (n := N) (by rw [← eE]; exact e0)
    have ty := lw_ty (t := t) (n := N) N2 (by rw [← eE]; exact e0)
    rw [← eZ, ← eE] at ln
    rw [← eZ] at ty
    have lC : Z.1.2.length ≤ 160 := by have := ln.2.1; rw [ln.2.2] at bN; omega
    refine qX2_takeSpare hS3 (fun ha ea h4 e4 => ?_)
    have hSa : mSk ha := by rw [ea]; exact sk_SR hS3 (skT_11 hS3) (by decide)
    have hS4 : mSk h4 := by rw [e4]; exact sk_SR hSa (skT_11 hSa) (by decide)
    have L4 : lwR (aRl h) h h4 := by
      rw [e4, ea]
      exact (LR.tr (lwR.SR (Or.inl rfl))).tr (lwR.SR (Or.inl rfl))
    have R5 : mR h4 11 5 = some l' := by
      rw [e4, mR_SR, if_neg (by omega), ea, mR_SR, if_pos ⟨rfl, rfl⟩, R11]; exact r6
    have R6 : mR h4 11 6 = some l := by
      rw [e4, mR_SR, if_pos ⟨rfl, rfl⟩, R11]; exact r5
    have i4 : ∀ x k, mI h4 x k = mI h3 x k := fun x k => by rw [e4, mI_SR, ea, mI_SR]
    refine ⟨rfl, hS4, ?_⟩
    have lg4 : lgX h4 (wm W) (wl W) (wJ W) := st.1.2.2.2.2.2.2.1.lr hS L4
    refine c6_forgetHeard (d := d + 18) hS4 lg4 (fun h5 f5 y5 z5 => ⟨rfl, f5.1.sk hS4, ?_⟩)
    have hS5 := f5.1.sk hS4
    have hd4 : ∀ x k, aHd h4 x k → aHd h x k := by
      rintro x k ⟨v, q1, q2, q3, q4⟩
      have q1' : mT h v = 8 := by rw [← L4.2.1]; exact q1
      exact ⟨v, q1', q2, by rw [← L4.2.2.2 v 0 (aRl_hi q2 (ne93 hS q1' (by decide)) (aHd_n hS q1'))]; exact q3, q4⟩
    have L5 : lwR (aRl h) h h5 := L4.tr ((f5.wk (B := aRl h) (fun x k z => Or.inr (Or.inr (Or.inr (hd4 x k z))))).lr)
    have low5 : ∀ x k, x < 93 → mI h5 x k = mI h3 x k := fun x k hx => by
      rw [f5.2 _ _ (by rintro ⟨v, -, q2, -, q3⟩; omega)]; exact i4 x k
    have lx : lwX h5 (lwT Z.1.2 Z.2.1) := by
      have cL : ∀ x k, (l' ≤ x ∧ x ≤ l' + 3) → mI h5 x k = mI h' x k := fun x k hx => by rw [low5 x k (by omega), f3.2 _ _ (by omega)]
      obtain ⟨cc1, cc2⟩ := c1.2 e0 lC
      have gg := g1 e0 lC
      refine ⟨l', hl', by rw [f5.1.2.2.2]; exact R5, by rw [cL _ _ (by omega)]; exact d1, fun q hq => ?_, fun q hq => ⟨by rw [cL _ _ (by omega)]; exact (gg q hq).1, fun p hp => ?_⟩⟩
      · have hq' : q ≤ Z.2.1.length := hq
        show mI h5 (l' + 2) q = nI (lbM Z.2.1 q)
        unfold lbM
        by_cases w : q = 0
        · rw [if_pos w, w, low5 _ _ (by omega), z18 (l' + 2) (by omega)]; rfl
        · rw [if_neg w, cL _ _ (by omega)]
          have := (gg (q - 1) (by omega)).2
          rw [show q - 1 + 1 = q by omega] at this
          exact this
      · rw [cL _ _ (by omega)]
        have hp' : p < lbM Z.2.1 (q + 1) := hp
        have := (ty.2.2 q hq).1
        exact cc2 p (by omega)
    have kc : kcA h5 (wLaw W (lwT Z.1.2 Z.2.1)) := by
      intro i lid k v hi hl hk hv c y hc hy x hx
      have hi' : i < wl W := hi
      have hk' : k < jN (wJ W i) := hk
      obtain ⟨lid', w1, w6, w93, -, -, -, -, -, -, g6⟩ := (lg4.2.2 i hi').1
      rw [f5.1.2.2.2] at hl hv
      rw [w1] at hl; cases hl
      obtain ⟨v', v1', v2', nt⟩ := g6 k hk'
      rw [v1'] at hv; cases hv
      cases hb : (jT (wJ W i) k).1 with
      | false =>
        have v0 : mI h4 v 0 = 0 := by rw [nt.2.1, hb]; rfl
        have zz := z5 i lid k v (Or.inl hi') w1 hk' v1' v0 (c * 32 + y) (by have := st.1.1.2.1; have hc' : c < wn W := hc; omega)
        rw [zz.1, zz.2, bt_0]; rfl
      | true =>
        have v0 : mI h4 v 0 ≠ 0 := by rw [nt.2.1, hb]; decide
        have v8 : mT h4 v = 8 := nt.1
        rw [f5.2 _ _ (aHd_e hS4 v8 v0 (Or.inr rfl)), f5.2 _ _ (aHd_e hS4 v8 v0 (Or.inl rfl)), i4, i4, iR _ _ (by omega) (by omega) (by omega), iR _ _ (by omega) (by omega) (by omega)]
        have eh : hdB (lwT Z.1.2 Z.2.1) (wU W) (wC W c) (wJ W i) (jT (wJ W i) k) x y = hdB (wL W) (wU W) (wC W c) (wJ W i) (jT (wJ W i) k) x y := hdB_e hb
        show bt (mI h (v + 2) (c * 32 + y)) x = (bt (mI h (v + 1) (c * 32 + y)) x && hdB (lwT Z.1.2 Z.2.1) (wU W) (wC W c) (wJ W i) (jT (wJ W i) k) x y)
        rw [eh]
        have rh : mR h 29 i = some lid := by rw [← L4.2.2.1 _ _ (by omega) (by omega)]; exact w1
        have rv : mR h (lid + 1) k = some v := by rw [← L4.2.2.1 _ _ (by omega) (by omega)]; exact v1'
        exact st.1.2.2.2.2.2.2.2.2.2.2 i lid k v hi' rh hk' rv c y hc hy x hx
    have w5 : cWo h5 (wLaw W (lwT Z.1.2 Z.2.1)) I := cWo.lw hS L5 st.1 lx ty.ok kc
    have kz : kcZ h5 (wLaw W (lwT Z.1.2 Z.2.1)) := by
      intro v r tv hv q1 q2
      have tv4 : mT h4 v = 8 := by rw [← f5.1.2.1]; exact tv
      have tvh : mT h v = 8 := by rw [← L5.2.1]; exact tv
      obtain ⟨y1, y2⟩ := y5 v r tv4 hv q2
      obtain ⟨o1, o2⟩ := st.2.2.1 v r tvh hv q1 q2
      rw [i4, iR _ _ (by omega) (by omega) (by omega), o1] at y1
      rw [i4, iR _ _ (by omega) (by omega) (by omega), o2] at y2
      exact ⟨by rcases y1 with y | y <;> exact y, by rcases y2 with y | y <;> exact y⟩
    have ty5 : tyX h5 := st.2.2.2.lr hS L5
    refine c0_restart hS5 w5 kz ty5 (fun h6 f6 s6 => ⟨rfl, f6.1.sk hS5, fun h7 e7 => ?_⟩)
    have f7 : mFr2 (fun x k => x = 8 ∧ k = 7) h6 h7 := by rw [e7]; exact mFr2.SI ⟨rfl, rfl⟩
    have f67 : mFr2 (fun x k => 93 ≤ x ∨ (x = 8 ∧ k = 7)) h5 h7 := (f6.wk (fun x k z => Or.inl z)).tr (f7.wk (fun x k z => Or.inr z))
    refine K3' e0 h7 (f7.1.sk (f6.1.sk hS5)) ((L5.wk (fun x k z => Or.inr (Or.inl z))).tr ((f67.wk (fun x k z => by rcases z with z | z; exact Or.inl z; exact Or.inr (Or.inr z))).lr)) ?_ ?_ ⟨l', l, by omega, ?_, ?_, ?_, ?_⟩ (s6.lo f7 (fun x k z => ⟨by omega, by unfold wl0; omega⟩))
    · rw [e7, mI_SI_s, f6.2 _ _ (by omega), low5 _ _ (by omega), iR _ _ (by omega) (by omega) (by omega)]
    · rw [f67.2 _ _ (by omega), low5 _ _ (by omega)]; exact t9'
    · rw [f67.1.2.2.2, f5.1.2.2.2]; exact R5
    · rw [f67.1.2.2.2, f5.1.2.2.2]; exact R6
    · rw [f67.2 _ _ (by omega), low5 _ _ (by omega)]; exact z18 18 (Or.inl rfl)
    · rw [f67.2 _ _ (by omega), low5 _ _ (by omega)]; exact z18 23 (Or.inr rfl)
end
