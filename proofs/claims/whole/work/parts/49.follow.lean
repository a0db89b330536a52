/-! FOLLOW -/
theorem wO_okX {h : mH} {W : aW} {I : Nat → Nat} (hW : cWo h W I) (c : Nat) : okO2 (wl W) (wO W c) := by
  intro i k hi
  have h6 := (hW.2.2.2.2.2.2.1.2.2 i hi).2.2.2.2.2.2.1
  unfold wO owK owC
  split
  · exact Or.inl rfl
  · have := cnt_le (fun k' => !hdB (wL W) (wU W) (wC W c) (wJ W i) (jT (wJ W i) k') (k % 32) (k / 32)) (jN (wJ W i))
    right
    unfold wrC
    omega
theorem kcA.fr {A : Nat → Nat → Prop} {h h' : mH} {W : aW} (f : mFr2 A h h') (hJ : lgX h (wm W) (wl W) (wJ W)) (hA : ∀ v j k, mT h v = 8 → 93 ≤ v → j = 1 ∨ j = 2 → ¬ A (v + j) k) (kc : kcA h W) : kcA h' W := by
  intro i lid k v hi hl hk hv c y hc hy x hx
  rw [f.1.2.2.2] at hl hv
  obtain ⟨lid', r1, -, -, -, -, -, -, -, -, g6⟩ := (hJ.2.2 i hi).1
  rw [hl] at r1
  cases r1
  obtain ⟨v', v1, v2, v3, -⟩ := g6 k hk
  rw [hv] at v1
  cases v1
  rw [f.2 _ _ (hA v 1 _ v3 v2 (by omega)), f.2 _ _ (hA v 2 _ v3 v2 (by omega))]
  exact kc i lid k v hi hl hk hv c y hc hy x hx
section
variable {G : mG} {d : Nat} {b : Nat × Nat} {h : mH} {Q : Option mV → mH → Prop}
set_option maxHeartbeats 4000000 in
theorem c6_follow {c ld nd : Nat} {W : aW} {I : Nat → Nat} (hS : mSk h) (hW : cWo h W I) (hc : c < wn W) (hr : rch h (I c) W c ld nd)
    (K : ∀ h' nd', mFr2 (aFl h (I c) c) h h' → cWo h' W I → rch h' (I c) W c (wl W) nd' → (∀ i, i + 1 = wl W → nd' = jN (wJ W i)) → Q none h') : mC G kX6_follow (d + 5) b [.inr (some 28), .inr (some (I c))] h Q := by
  have ta := (hW.1.2.2 c hc).2.1
  have ha := (hW.2.1 c hc).1
  have hn8 := hW.1.2.1
  have hl12 := hW.2.2.2.2.2.2.1.2.1
  have hs3 := hW.2.2.2.2.2.2.2.1.2
  have okO := wO_okX hW c
  obtain ⟨a, hae⟩ : ∃ a, a = I c := ⟨_, rfl⟩
  have t5 := skB hS (o := 5) (u := 100) (l := 1536) (by decide) ta
  -- the state between steps
  have wo : ∀ h1, mFr2 (aFl h (I c) c) h h1 → cSw h1 (I c) (wC W c) → kcA h1 W → cWo h1 W I := fun h1 f s k => cWo.fl hS hc f s k hW
  have setI : ∀ h1 k v, (k = 10 ∨ k = 11) → mFr2 (aFl h (I c) c) h h1 → cSw h1 (I c) (wC W c) → kcA h1 W → mFr2 (aFl h (I c) c) h (mSI h1 (I c) k v) ∧ cSw (mSI h1 (I c) k v) (I c) (wC W c) ∧ kcA (mSI h1 (I c) k v) W := by
    intro h1 k v hk f s kc
    have hS1 := f.1.sk hS
    have g : mFr2 (fun x k' => x = I c ∧ k' = k) h1 (mSI h1 (I c) k v) := mFr2.SI ⟨rfl, rfl⟩
    refine ⟨f.tr (g.wk (fun x k' z => Or.inl ⟨z.1, by omega⟩)), cSw.fr g (fun k' z => by omega) (fun k' z => by omega) s, kcA.fr g (wo h1 f s kc).2.2.2.2.2.2.1 (fun v' j k' tv hv hj z => ?_) kc⟩
    exact ap82 hS1 tv (by rw [f.1.2.1]; exact ta) j 0 (by omega) (by omega) (by omega)
  have rwSI : ∀ h1 k v fr V, rwB h1 (I c + 5) fr (ws W) V → rwB (mSI h1 (I c) k v) (I c + 5) fr (ws W) V := by
    intro h1 k v fr V hv w x y q1 q2 q3
    rw [mI_SI_a (by omega)]; exact hv w x y q1 q2 q3
  have head : ∀ (r i : Nat) (h1 : mH), i + r = wl W → mFr2 (aFl h (I c) c) h h1 → cSw h1 (I c) (wC W c) → kcA h1 W →
      ((∃ nd, rch h1 (I c) W c (i + 1) nd) ∨ (mI h1 (I c) 10 = nI i ∧ (∃ nd, mI h1 (I c) 11 = nI nd ∧ ∀ j, j + 1 = i → nd = jN (wJ W j)) ∧ ∀ j, j < i → rwB h1 (I c + 5) (j * 128) (ws W) (fun x y => wF W c j (32 * y + x)))) →
      mW G kX6_follow (d + 5) b 11 [some (.inr (some 28)), some (.inr (some (I c))), some (.inl (nI i)), none, none] [] h1 Q := by
    intro r
    induction r with
    | zero =>
      intro i h1 hi f1 s1 k1 st
      have hW1 := wo h1 f1 s1 k1
      have e1 := hW1.2.2.2.2.2.2.1.1
      rcases st with ⟨nd, z⟩ | ⟨z1, ⟨nd, z2, z3⟩, z4⟩
      · have := z.2.2.1; omega
      · have hie : i = wl W := by omega
        subst hie
        refine qX6_follow_11 (I c) _ (by rw [f1.1.2.1]; exact ta) (f1.1.sk hS) ⟨fun _ => K h1 nd f1 hW1 ⟨z1, z2, Nat.le_refl _, fun j hj => by rw [z3 j hj]; exact Nat.le_refl _, fun j hj => z4 j (by omega), fun j hj => ?_⟩ z3, fun z => absurd (by rw [e1]; exact nI_le (by omega) (by omega)) z⟩
        rw [z3 j hj]
        exact (z4 j (by omega)).cg (fun w x y _ hx _ => by rw [pV_all W c j x y hx])
    | succ r ih =>
      intro i h1 hi f1 s1 k1 st
      have hW1 := wo h1 f1 s1 k1
      have hS1 := f1.1.sk hS
      have ta1 : mT h1 (I c) = 2 := by rw [f1.1.2.1]; exact ta
      have e1 := hW1.2.2.2.2.2.2.1.1
      obtain ⟨⟨lid, r1, liX1⟩, okl⟩ := hW1.2.2.2.2.2.2.1.2.2 i (by omega)
      have hj6 : jN (wJ W i) ≤ 6 := okl.2.2.2.2.2.1
      -- note by note
      have notes : ∀ (q k : Nat) (h2 : mH), k + q = jN (wJ W i) → mFr2 (aFl h (I c) c) h h2 → cSw h2 (I c) (wC W c) → kcA h2 W → mI h2 (I c) 10 = nI (i + 1) → (∀ j, j < i → rwB h2 (I c + 5) (j * 128) (ws W) (fun x y => wF W c j (32 * y + x))) → rwB h2 (I c + 5) (i * 128) (ws W) (pV W c i k) →
          mW G kX6_follow (d + 5) b 59 [some (.inr (some 28)), some (.inr (some (I c))), some (.inl (nI i)), some (.inr (some lid)), some (.inl (nI k))] [] h2 Q := by
        intro q
        induction q with
        | zero =>
          intro k h2 hk f2 s2 k2 g10 rj ri
          have hW2 := wo h2 f2 s2 k2
          have hS2 := f2.1.sk hS
          obtain ⟨⟨lid', r1', lx⟩, -⟩ := hW2.2.2.2.2.2.2.1.2.2 i (by omega)
          rw [f2.1.2.2.2, ← f1.1.2.2.2, r1] at r1'
          cases r1'
          have e5 : mI h2 lid 5 = nI (jN (wJ W i)) := lx.2.2.2.2.2.2.2.1
          refine qX6_follow_59 (I c) _ _ _ (by rw [f2.1.2.1]; exact ta) hS2 ⟨lid, rfl, lx.1, fun _ h3 e3 => ?_, fun z => absurd (by rw [e5]; exact nI_le (by omega) (by omega)) z⟩
          rw [e5] at e3
          rw [e3, nI_1]
          obtain ⟨f3, s3, k3⟩ := setI h2 11 (nI (jN (wJ W i))) (Or.inr rfl) f2 s2 k2
          refine ih (i + 1) _ (by omega) f3 s3 k3 (Or.inr ⟨by rw [mI_SI_k (by omega)]; exact g10, ⟨jN (wJ W i), mI_SI_s, fun j hj => by rw [show j = i by omega]⟩, fun j hj => rwSI _ _ _ _ _ ?_⟩)
          by_cases e : j = i
          · rw [e]
            have hke : k = jN (wJ W i) := by omega
            rw [hke] at ri
            exact ri.cg (fun w x y _ hx _ => by rw [pV_all W c i x y hx])
          · exact rj j (by omega)
        | succ q ihq =>
          intro k h2 hk f2 s2 k2 g10 rj ri
          have hW2 := wo h2 f2 s2 k2
          have hS2 := f2.1.sk hS
          have ta2 : mT h2 (I c) = 2 := by rw [f2.1.2.1]; exact ta
          obtain ⟨⟨lid', r1', lx⟩, okl2⟩ := hW2.2.2.2.2.2.2.1.2.2 i (by omega)
          have r2 : mR h2 29 i = some lid := by rw [f2.1.2.2.2, ← f1.1.2.2.2]; exact r1
          rw [r2] at r1'
          cases r1'
          obtain ⟨tl, l93, -, -, -, l3, l4, l5, ln⟩ := lx
          obtain ⟨v, v1, v93, vx⟩ := ln k (by omega)
          refine qX6_follow_59 (I c) _ _ _ ta2 hS2 ⟨lid, rfl, tl, fun z => absurd z (by rw [l5]; exact nI_ge (by omega) (by omega)), fun _ => qX1_rowsAt (I c) _ _ ta2 hS2 ⟨_, rfl, hS2, ta2, tl, ?_⟩⟩
          have er : (nI i * 4 + 0) * 32 = nI (i * 128) := by
            rw [show (0 : Int32) = nI 0 from rfl, L4, pk_mul, nI_add, L32, pk_mul]; congr 1; omega
          rw [er]
          refine c6_sift (l := wJ W i) (t := jT (wJ W i) k) (N := 1536) (C := wC W c) (V := pV W c i k) hS2 (by rw [f2.1.2.1]; exact t5.1) (by rw [f2.1.2.2.1]; exact t5.2) (by omega) (by omega) (Or.inl rfl) vx v1 (by omega) tl l3 l4 v93 ha l93 (hW2.1.2.2 c hc).2 (hW2.2.1 c hc).2 (by omega) hW2.2.2.2.2.2.2.2.1.1 hs3 (okl2.2.2.2.2.2.2 k (by omega)) hW2.2.2.2.1 hW2.2.2.2.2.1 hW2.2.2.2.2.2.1 ri (fun x y hx hy hle => pV_w W c i k x y (ws W) hs3 hle) (fun y hy => k2 i lid k v (by omega) r2 (by omega) v1 c y hc hy) (fun h3 f3 ri3 kc3 s3 => ?_)
          have ap := ap82 hS2 vx.1 ta2
          have f3' : mFr2 (aFl h (I c) c) h2 h3 := f3.wk (fun x k' z => by
            rcases z with z | z | z
            · exact Or.inr (Or.inl z.1)
            · exact Or.inr (Or.inr (Or.inr (Or.inr ⟨v, by rw [← f2.1.2.1]; exact vx.1, v93, z.1, z.2⟩)))
            · exact Or.inr (Or.inr (Or.inr (Or.inl z))))
          have f23 := f2.tr f3'
          have k3 : kcA h3 W := by
            intro i' lid' k' v' hi' hl' hk' hv' c' y hc' hy
            have hl2 : mR h2 29 i' = some lid' := by rw [← f3.1.2.2.2]; exact hl'
            have hv2 : mR h2 (lid' + 1) k' = some v' := by rw [← f3.1.2.2.2]; exact hv'
            obtain ⟨lid'', q1, q2⟩ := (hW2.2.2.2.2.2.2.1.2.2 i' hi').1
            rw [hl2] at q1
            cases q1
            obtain ⟨tl', -, -, -, -, -, -, -, ln'⟩ := q2
            obtain ⟨v'', w1, w2, w3⟩ := ln' k' hk'
            rw [hv2] at w1
            cases w1
            have hin := hW2.2.2.2.2.2.2.2.2.2.1
            by_cases e : v' = v ∧ c' = c
            · obtain ⟨e1, e2⟩ := e
              subst e1; subst e2
              obtain ⟨q3, q4⟩ := hin.2 lid' lid k' k v' tl' tl hv2 v1
              subst q3; subst q4
              have q5 := hin.1 i' i lid' hl2 r2
              subst q5
              exact kc3 y hy
            · have g : ∀ j, j = 1 ∨ j = 2 → mI h3 (v' + j) (c' * 32 + y) = mI h2 (v' + j) (c' * 32 + y) := fun j hj => f3.2 _ _ (fun z => by
                have ap' := ap82 hS2 w3.1 ta2
                have a3 := ap' j 3 (by omega) (by omega); have a4 := ap' j 4 (by omega) (by omega); have a5 := ap' j 5 (by omega) (by omega)
                rcases z with z | z | z
                · omega
                · by_cases e3 : v' = v
                  · have : c' ≠ c := fun q => e ⟨e3, q⟩
                    omega
                  · have ap2 := ap88 hS2 w3.1 vx.1 e3
                    have := ap2 j 1 (by omega) (by omega); have := ap2 j 2 (by omega) (by omega)
                    omega
                · unfold aMid aEr aEar at z; omega)
              intro x hx
              rw [g 1 (by omega), g 2 (by omega)]
              exact k2 i' lid' k' v' hi' hl2 hk' hv2 c' y hc' hy x hx
          have nI5 : ∀ k', ¬ (i * 128 ≤ k' ∧ k' < i * 128 + 128) → mI h3 (I c + 5) k' = mI h2 (I c + 5) k' := fun k' hk' => f3.2 _ _ (fun z => by
            have a1 := ap 1 5 (by omega) (by omega); have a2 := ap 2 5 (by omega) (by omega)
            rcases z with z | z | z
            · omega
            · omega
            · unfold aMid aEr aEar at z; omega)
          have nA : ∀ k', mI h3 (I c) k' = mI h2 (I c) k' := fun k' => f3.2 _ _ (fun z => by
            have a1 := ap 1 0 (by omega) (by omega); have a2 := ap 2 0 (by omega) (by omega)
            rcases z with z | z | z
            · omega
            · omega
            · unfold aMid aEr aEar at z; omega)
          refine ⟨rfl, f3.1.sk hS2, by rw [f3.1.2.1]; exact ta2, by rw [f3.1.2.1]; exact tl, ?_⟩
          rw [nI_1]
          refine ihq (k + 1) h3 (by omega) f23 s3 k3 (by rw [nA]; exact g10) (fun j hj w x y q1 q2 q3 => ?_) (ri3.cg (fun w x y hw _ _ => pV_s W c i k x y w (by omega) (by omega)))
          rw [nI5 _ (by omega)]
          exact rj j hj w x y q1 q2 q3
      refine qX6_follow_11 (I c) _ ta1 hS1 ⟨fun z => absurd z (by rw [e1]; exact nI_ge (by omega) (by omega)), fun _ => ?_⟩
      rw [nI_clamp (by omega), r1]
      refine ⟨vp_in_nI (by omega) (by omega), fun z => ?_, fun z => ?_⟩
      · rcases st with ⟨nd, z1, z2, z3, z4, z5, z6⟩ | ⟨z1, -, -⟩
        · rw [z2]
          have := z4 i rfl
          exact notes (jN (wJ W i) - nd) nd h1 (by omega) f1 s1 k1 z1 (fun j hj => z5 j (by omega)) (z6 i rfl)
        · rw [z1] at z
          exact absurd z (nI_nlt (Nat.le_refl _) (by omega))
      · rcases st with ⟨nd, z1, z2, z3, z4, z5, z6⟩ | ⟨z1, z2, z4⟩
        · rw [z1] at z
          exact absurd (nI_lt (by omega) (by omega)) z
        · obtain ⟨tl, l93, l0, l1, l2, l3, l4, l5, ln⟩ := liX1
          refine c6_begin (d := d + 2) (n := wl W) (C := wC W c) (O := wO W c) (J := wJ W) (B := wB W) hS1 ta1 ha (hW1.1.2.2 c hc).2.2.2.2.1 (by omega) hl12 tl l93 l0 l1 l2 okl.1 okl.2.1 okl.2.2.1 hW1.2.2.2.2.2.2.2.1.1 hs3 hW1.2.2.2.2.2.2.2.2.1 okO (fun j hj => z4 j (by omega)) (fun h2 f2 rb => ?_)
          have f2' : mFr2 (aFl h (I c) c) h1 h2 := f2.wk (fun x k' z => by
            unfold aBg at z
            rcases z with z | z
            · exact Or.inr (Or.inr (Or.inl z))
            · exact Or.inr (Or.inl z.1))
          have s2 : cSw h2 (I c) (wC W c) := cSw.fr f2 (fun k' z => by unfold aBg at z; omega) (fun k' z => by unfold aBg at z; omega) s1
          have k2 : kcA h2 W := kcA.fr f2 hW1.2.2.2.2.2.2.1 (fun v' j k' tv hv hj z => by
            have := ap82 hS1 tv ta1 j 5 (by omega) (by omega)
            unfold aBg at z; omega) k1
          refine ⟨rfl, f2.1.sk hS1, by rw [f2.1.2.1]; exact ta1, fun h3 e3 h4 e4 => ?_⟩
          rw [nI_1] at e3
          obtain ⟨f3, s3, k3⟩ := setI h2 10 (nI (i + 1)) (Or.inl rfl) (f1.tr f2') s2 k2
          rw [← e3] at f3 s3 k3
          obtain ⟨f4, s4, k4⟩ := setI h3 11 0 (Or.inr rfl) f3 s3 k3
          rw [← e4] at f4 s4 k4
          have e11 : mI h4 (I c) 11 = nI 0 := by rw [e4, mI_SI_s]; rfl
          rw [e11]
          refine notes (jN (wJ W i)) 0 h4 (by omega) f4 s4 k4 (by rw [e4, mI_SI_k (by omega), e3, mI_SI_s]) (fun j hj => ?_) ?_
          · rw [e4, e3]
            refine rwSI _ _ _ _ _ (rwSI _ _ _ _ _ (fun w x y q1 q2 q3 => ?_))
            rw [f2.2 _ _ (fun z => by unfold aBg at z; omega)]
            exact z4 j hj w x y q1 q2 q3
          · rw [e4, e3]
            exact rwSI _ _ _ _ _ (rwSI _ _ _ _ _ (rb.cg (fun w x y hw _ _ => pV_0 W c i x y w (by omega))))
  refine qX6_follow (I c) ta hS ?_
  rw [hr.1]
  have hld := hr.2.2.1
  have sw0 := (hW.1.2.2 c hc).2.2.2.2.2
  have kc0 := hW.2.2.2.2.2.2.2.2.2.2
  cases ld with
  | zero =>
    rw [show f_max 0 (nI 0 - 1) = nI 0 from by decide]
    exact head (wl W) 0 h (by omega) mFr2.rf sw0 kc0 (Or.inr ⟨hr.1, ⟨nd, hr.2.1, fun j hj => by omega⟩, fun j hj => by omega⟩)
  | succ i =>
    rw [nI_pred, show (0 : Int32) = nI 0 from rfl, fmax_n (by omega) (by omega), show max 0 i = i by omega]
    exact head (wl W - i) i h (by omega) mFr2.rf sw0 kc0 (Or.inl ⟨nd, hr⟩)
end
