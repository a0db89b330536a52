/-! a coast is told -/
def wAdd (W : aW) (C : aCo) : aW := ((wn W + 1, fun c => if c = wn W then C else wC W c), W.2)
def iAdd (W : aW) (I : Nat → Nat) (a : Nat) : Nat → Nat := fun c => if c = wn W then a else I c
theorem wAdd_C {W : aW} {C : aCo} {c : Nat} (h : c ≠ wn W) : wC (wAdd W C) c = wC W c := if_neg h
theorem wAdd_n {W : aW} {C : aCo} : wC (wAdd W C) (wn W) = C := if_pos rfl
theorem wAdd_O {W : aW} {C : aCo} {c : Nat} (h : c ≠ wn W) : wO (wAdd W C) c = wO W c := by
  funext i k
  show owK (wL W) (wU W) (wC (wAdd W C) c) (wJ W i) k = _
  rw [wAdd_C h]; rfl
theorem wAdd_F {W : aW} {C : aCo} {c : Nat} (h : c ≠ wn W) : wF (wAdd W C) c = wF W c := by
  show foV (wO (wAdd W C) c) (wJ W) (wB W) = _
  rw [wAdd_O h]; rfl
theorem wAdd_P {W : aW} {C : aCo} {c : Nat} (h : c ≠ wn W) (i j x y : Nat) : pV (wAdd W C) c i j x y = pV W c i j x y := by
  show sm (prV (wO (wAdd W C) c) (wJ W) (wB W) i (32 * y + x)) (if coLand (wC (wAdd W C) c) x y then FARn else wrC (wL W) (wU W) (wC (wAdd W C) c) (wJ W i) x y j) = _
  rw [wAdd_O h, wAdd_C h]; rfl
theorem wcI_co {h : mH} {W : aW} {I : Nat → Nat} {a : Nat} (hS : mSk h) (hW : cWo h W I) (ta : mT h a = 2) (ha : 93 ≤ a) (hne : ∀ c, c < wn W → I c ≠ a) {x k : Nat} (z : wcI h W I x k) : ∀ j, j ≤ 8 → x ≠ a + j := by
  intro j hj e
  rcases z with z | ⟨c, j', z1, z2, z3⟩ | z | z | z | z | z | z | ⟨i, lid, q1, q2, q3⟩
  · omega
  · exact ap22 hS (hW.1.2.2 c z1).2.1 ta (hne c z1) j' j z2 hj (by omega)
  · omega
  · omega
  · omega
  · omega
  · omega
  · omega
  · obtain ⟨lid', r1, t6, g93, -, -, -, -, -, -, g6⟩ := (hW.2.2.2.2.2.2.1.2.2 i q1).1
    rw [q2] at r1
    cases r1
    rcases q3 with q3 | ⟨k', v, r1, r2, r3⟩
    · exact ap62 hS t6 ta 0 j (by omega) hj (by omega)
    · obtain ⟨v', v1, v2, v3, -⟩ := g6 k' r1
      rw [r2] at v1
      cases v1
      have ap := ap82 hS v3 ta
      have a0 := ap 0 j (by omega) hj; have a1 := ap 1 j (by omega) hj; have a2 := ap 2 j (by omega) hj
      omega
/-- writing into a coast that is not among the chart's -/
theorem cSt.co {A : Nat → Nat → Prop} {h h' : mH} {W : aW} {I : Nat → Nat} {a : Nat} (hS : mSk h) (st : cSt h W I) (ta : mT h a = 2) (ha : 93 ≤ a) (hne : ∀ c, c < wn W → I c ≠ a) (f : mFr2 A h h') (hA : ∀ x k, A x k → ∃ j, j ≤ 8 ∧ x = a + j) : cSt h' W I := by
  refine st.up (wSm.fr f (fun x k z e => ?_)) (st.1.2.2.2.2.2.2.2.2.2.1.kp f.1) (st.2.2.2.kp f.1) (fun v r tv hv q1 q2 => ?_)
  · obtain ⟨j, hj, ej⟩ := hA x k e
    exact wcI_co hS st.1 ta ha hne z j hj ej
  · rw [f.1.2.1] at tv
    have ap := ap82 hS tv ta
    rw [f.2 _ _ (fun e => by obtain ⟨j, hj, ej⟩ := hA _ _ e; exact ap 1 j (by omega) hj ej), f.2 _ _ (fun e => by obtain ⟨j, hj, ej⟩ := hA _ _ e; exact ap 2 j (by omega) hj ej)]
    exact st.2.2.1 v r tv hv q1 q2
theorem cSt.add {h : mH} {W : aW} {I : Nat → Nat} {a : Nat} {C : aCo} (st : cSt h W I) (hn : wn W < 8) (er : mR h 34 (wn W) = some a) (ha : 93 ≤ a) (hne : ∀ c, c < wn W → I c ≠ a) (hC : cCo h a C) (e0 : mI h a 0 = nI (wn W)) (e10 : mI h a 10 = 0) (e11 : mI h a 11 = 0) : cSt (mSI h 33 1 (nI (wn W + 1))) (wAdd W C) (iAdd W I a) := by
  obtain ⟨⟨h1, h2, h3, h4, h5, h6, h7, h8, h9, h10, h11⟩, s2, s3, s4⟩ := st
  have f : mFr2 (fun x k => x = 33 ∧ k = 1) h (mSI h 33 1 (nI (wn W + 1))) := mFr2.SI ⟨rfl, rfl⟩
  have hi : ∀ x k, x ≠ 33 → mI (mSI h 33 1 (nI (wn W + 1))) x k = mI h x k := fun x k q => f.2 _ _ (fun z => q z.1)
  have iN : iAdd W I a (wn W) = a := if_pos rfl
  have iO : ∀ c, c ≠ wn W → iAdd W I a c = I c := fun c q => if_neg q
  have lt : ∀ c, c < wn (wAdd W C) → c ≠ wn W → c < wn W := fun c q1 q2 => by have : c < wn W + 1 := q1; omega
  have I93 : ∀ c, c < wn (wAdd W C) → 93 ≤ iAdd W I a c := fun c hc => by
    by_cases e : c = wn W
    · rw [e, iN]; exact ha
    · rw [iO c e]; exact (h2 c (lt c hc e)).1
  refine ⟨⟨⟨mI_SI_s, by show wn W + 1 ≤ 8; omega, fun c hc => ?_⟩, fun c hc => ⟨I93 c hc, ?_⟩, fun c c' hc hc' e => ?_, ?_, ?_, h6, ⟨?_, h7.2.1, fun i hi2 => ⟨?_, (h7.2.2 i hi2).2⟩⟩, ⟨?_, h8.2⟩, ?_, h10.kp f.1, ?_⟩, fun c hc => ?_, fun v r tv hv q1 q2 => ?_, s4.kp f.1⟩
  · by_cases e : c = wn W
    · subst e
      rw [iN, wAdd_n]
      exact ⟨er, cCo.eq (h := h) (h' := mSI h 33 1 (nI (wn W + 1))) rfl (fun j k _ => hi _ _ (by omega)) hC⟩
    · have hc' := lt c hc e
      have := (h2 c hc').1
      rw [iO c e, wAdd_C e]
      exact ⟨(h1.2.2 c hc').1, cCo.eq (h := h) (h' := mSI h 33 1 (nI (wn W + 1))) rfl (fun j k _ => hi _ _ (by omega)) (h1.2.2 c hc').2⟩
  · have := I93 c hc
    rw [hi _ _ (by omega)]
    by_cases e : c = wn W
    · subst e; rw [iN]; exact e0
    · rw [iO c e]; exact (h2 c (lt c hc e)).2
  · by_cases q1 : c = wn W
    · by_cases q2 : c' = wn W
      · omega
      · rw [q1, iN, iO c' q2] at e
        exact absurd e.symm (hne c' (lt c' hc' q2))
    · by_cases q2 : c' = wn W
      · rw [q2, iN, iO c q1] at e
        exact absurd e (hne c (lt c hc q1))
      · rw [iO c q1, iO c' q2] at e
        exact h3 c c' (lt c hc q1) (lt c' hc' q2) e
  · exact soX.fr f (fun a k q1 q2 z => by omega) (fun z => by omega) h4
  · exact lwX.fr f (fun a k q z => by omega) h5
  · rw [hi _ _ (by omega)]; exact h7.1
  · obtain ⟨lid, r1, t6, g93, g0, g1, g2, g3, g4, g5, g6⟩ := (h7.2.2 i hi2).1
    have nl : ∀ k, mI (mSI h 33 1 (nI (wn W + 1))) lid k = mI h lid k := fun k => hi _ _ (by omega)
    refine ⟨lid, r1, t6, g93, by rw [nl]; exact g0, by rw [nl]; exact g1, by rw [nl]; exact g2, by rw [nl]; exact g3, by rw [nl]; exact g4, by rw [nl]; exact g5, fun k hk => ?_⟩
    obtain ⟨v, u1, u2, u3, u4, u5, u6, u7⟩ := g6 k hk
    have nv : ∀ k, mI (mSI h 33 1 (nI (wn W + 1))) v k = mI h v k := fun k => hi _ _ (by omega)
    exact ⟨v, u1, u2, u3, by rw [nv]; exact u4, by rw [nv]; exact u5, by rw [nv]; exact u6, by rw [nv]; exact u7⟩
  · rw [hi _ _ (by omega)]; exact h8.1
  · obtain ⟨⟨q1, q2, q3⟩, q4⟩ := h9
    refine ⟨⟨?_, ?_, fun x hx => ?_⟩, q4⟩
    · rw [hi _ _ (by omega)]; exact q1
    · rw [hi _ _ (by omega)]; exact q2
    · rw [hi _ _ (by omega)]; exact q3 x hx
  · intro i lid k v hi2 hl hk hv c y hc hy x hx
    obtain ⟨t6, -⟩ := s4.1 _ _ hl
    obtain ⟨t8, v93⟩ := s4.2 _ _ _ t6 hv
    rw [hi _ _ (by omega), hi _ _ (by omega)]
    by_cases e : c = wn W
    · have z := s3 v (c * 32 + y) t8 v93 (by omega) (by omega)
      rw [z.1, z.2, bt_0]; rfl
    · rw [wAdd_C e]
      exact h11 i lid k v hi2 hl hk hv c y (lt c hc e) hy x hx
  · have := I93 c hc
    by_cases e : c = wn W
    · subst e
      rw [iN]
      refine ⟨0, 0, rch.z ?_ ?_⟩
      · rw [hi _ _ (by omega)]; exact e10
      · rw [hi _ _ (by omega)]; exact e11
    · rw [iO c e] at this ⊢
      obtain ⟨ld, nd, r⟩ := s2 c (lt c hc e)
      have r' := r.eq (h' := mSI h 33 1 (nI (wn W + 1))) (fun j k _ => hi _ _ (by omega))
      exact ⟨ld, nd, rch.cg (W := W) (W' := wAdd W C) rfl r.2.2.1 (fun i _ k => by rw [wAdd_F e]) (fun i hi => ⟨r.2.2.2.1 i hi, fun x y => wAdd_P e i nd x y⟩) r'⟩
  · have q1' : wn W * 32 ≤ r := by
      have : (wn W + 1) * 32 ≤ r := q1
      omega
    have := s3 v r tv hv q1' q2
    rw [hi _ _ (by omega), hi _ _ (by omega)]; exact this
/-- a coast by the tape -/
def tpC (t : Nat → Nat) (n : Nat) : aCo := (n, fun i => t (2 * i), fun i => t (2 * i + 1), fun i => t (2 * n + i))
theorem bdT_none {t : Nat → Nat} {n i : Nat} (h : bdT t n i = none) : t (2 * i) ≤ 32 ∧ t (2 * i + 1) ≤ 32 ∧ (0 < i → jnT t (i - 1) i = true) ∧ (i + 1 = n → jnT t i 0 = true) := by
  unfold bdT at h
  by_cases h1 : 32 < t (2 * i)
  · rw [if_pos h1] at h; cases h
  · rw [if_neg h1] at h
    by_cases h2 : 32 < t (2 * i + 1)
    · rw [if_pos h2] at h; cases h
    · rw [if_neg h2] at h
      by_cases h3 : (0 < i ∧ jnT t (i - 1) i = false) ∨ (i + 1 = n ∧ jnT t i 0 = false)
      · rw [if_pos h3] at h; cases h
      · refine ⟨by omega, by omega, fun q => ?_, fun q => ?_⟩
        · cases hb : jnT t (i - 1) i with
          | true => rfl
          | false => exact absurd (Or.inl ⟨q, hb⟩) h3
        · cases hb : jnT t i 0 with
          | true => rfl
          | false => exact absurd (Or.inr ⟨q, hb⟩) h3
theorem tpC_ok {t : Nat → Nat} {n : Nat} (hn : 4 ≤ n ∧ n ≤ 16) (h2 : n % 2 = 0) (nb : noBd t n) : okRing (tpC t n) := by
  refine ⟨⟨hn.1, hn.2, h2⟩, fun i hi => ?_⟩
  have hi' : i < n := hi
  obtain ⟨b1, b2, b3, b4⟩ := bdT_none (nb.1 i hi')
  refine ⟨⟨b1, b2, nb.2 i hi'⟩, ?_⟩
  have key : jnT t i (nxt n i) = true := by
    unfold nxt
    by_cases e : i + 1 = n
    · rw [if_pos e]; exact b4 e
    · rw [if_neg e]
      exact (bdT_none (nb.1 (i + 1) (by omega))).2.2.1 (by omega)
  show if i % 2 = 0 then t (2 * i + 1) = t (2 * nxt n i + 1) ∧ t (2 * i) ≠ t (2 * nxt n i) else t (2 * i) = t (2 * nxt n i) ∧ t (2 * i + 1) ≠ t (2 * nxt n i + 1)
  unfold jnT at key
  by_cases e : i % 2 = 0
  · rw [if_pos e] at key ⊢
    simpa using key
  · rw [if_neg e] at key ⊢
    simpa using key
def okCoN (n : Nat) (nt : Nat) (v1 : Int32) : Prop := ∃ m : Nat, v1 = nI m ∧ (4 ≤ m ∧ m ≤ 16) ∧ m % 2 = 0 ∧ n < 8 ∧ 3 * m ≤ nt
/-- a new coast that is not in the chart yet -/
def nwC (h : mH) (a c : Nat) (C : aCo) : Prop := mT h a = 2 ∧ 93 ≤ a ∧ mI h a 0 = nI c ∧ mCoX h a C ∧ okRing C ∧ (∀ j k, j = 1 ∨ j = 2 ∨ j = 4 → mI h (a + j) k = 0) ∧ mI h a 10 = 0 ∧ mI h a 11 = 0
def aAd : Nat → Nat → Prop := fun x k => (x = 33 ∧ k = 1) ∨ (x = 8 ∧ k = 7)
section
variable {G : mG} {d : Nat} {b : Nat × Nat} {b1 b2 : Nat} {h : mH} {Q : Option mV → mH → Prop}
theorem c11_addCoast {W : aW} {I : Nat → Nat} {a : Nat} {C : aCo} (hS : mSk h) (st : cSt h W I) (hn : wn W < 8) (nc : nwC h a (wn W) C) (hne : ∀ c, c < wn W → I c ≠ a)
    (K : ∀ h', mSk h' → mN h' = mN h → mT h' = mT h → lwK aAd h h' → mI h' 33 1 = nI (wn W + 1) → mI h' 8 7 = mI h 8 7 + 1 → cSt h' (wAdd W C) (iAdd W I a) → Q none h') : mC G kX11_addCoast (d + 3) b [.inr (some 8), .inr (some a)] h Q := by
  obtain ⟨ta, ha, e0, hC, ok, hz, e10, e11⟩ := nc
  refine qX11_addCoast a ta hS (c1_drawLand (C := C) hS ta hC ok (fun y _ => hz 1 y (by omega)) (fun y _ => hz 2 y (by omega)) (fun h1 f1 c1 => ⟨rfl, f1.1.sk hS, by rw [f1.1.2.1]; exact ta, ?_⟩))
  have hS1 := f1.1.sk hS
  have s1 : cSt h1 W I := st.co hS ta ha hne f1 (fun x k z => by
    unfold aDraw at z
    rcases z with z | z
    · exact ⟨1, by omega, z⟩
    · exact ⟨2, by omega, z⟩)
  have ta1 : mT h1 a = 2 := by rw [f1.1.2.1]; exact ta
  have o1 : ∀ x k, x ≠ a + 1 → x ≠ a + 2 → mI h1 x k = mI h x k := fun x k q1 q2 => f1.2 _ _ (fun z => by unfold aDraw at z; omega)
  have eN : mI h1 33 1 = nI (wn W) := s1.1.1.1
  rw [eN, nI_clamp (by omega)]
  refine ⟨vp_in_nI hn (by omega), fun h3 e3 h4 e4 h5 e5 => ?_⟩
  have hS3 : mSk h3 := by rw [e3]; exact sk_SR hS1 (skT_34 hS1) (sk_CFbig (by omega))
  have tt : mT h3 = mT h1 := by rw [e3]; rfl
  have ii : mI h3 = mI h1 := by rw [e3]; rfl
  have ro : ∀ x k, ¬ (x = 34 ∧ k = wn W) → mR h3 x k = mR h1 x k := fun x k q => by rw [e3, mR_SR, if_neg q]
  have t6 : ∀ a, mT h1 a = 6 → a + 1 ≠ 34 := fun a q e => by
    have e2 : a = 33 := by omega
    rw [e2, skT_33 hS1] at q; omega
  have s3 : cSt h3 W I := by
    refine s1.up ⟨fun a _ => by rw [tt], fun x k z => ro _ _ (fun q => ?_), fun x k z => by rw [ii]⟩ ⟨fun i j a q1 q2 => ?_, fun a a' k k' v q1 q2 q3 q4 => ?_⟩ ⟨fun i lid q => ?_, fun a k v q1 q2 => ?_⟩ (fun v r tv hv q1 q2 => ?_)
    · rcases z with z | z | z | ⟨i, lid, z1, z2, z3, z4⟩
      · omega
      · omega
      · omega
      · exact t6 _ (s1.2.2.2.1 _ _ z2).1 (by omega)
    · rw [ro _ _ (fun t => by omega)] at q1 q2
      exact s1.1.2.2.2.2.2.2.2.2.2.1.1 i j a q1 q2
    · rw [tt] at q1 q2
      rw [ro _ _ (fun t => t6 _ q1 t.1)] at q3
      rw [ro _ _ (fun t => t6 _ q2 t.1)] at q4
      exact s1.1.2.2.2.2.2.2.2.2.2.1.2 a a' k k' v q1 q2 q3 q4
    · rw [ro _ _ (fun t => by omega)] at q
      rw [tt]; exact s1.2.2.2.1 i lid q
    · rw [tt] at q1 ⊢
      rw [ro _ _ (fun t => t6 _ q1 t.1)] at q2
      exact s1.2.2.2.2 a k v q1 q2
    · rw [tt] at tv
      rw [ii]; exact s1.2.2.1 v r tv hv q1 q2
  have e4' : h4 = mSI h3 33 1 (nI (wn W + 1)) := by rw [e4, ii, eN, nI_1]
  have hCo : cCo h3 a C := by
    refine ⟨by rw [tt]; exact ta1, ⟨?_, fun i hi => ?_⟩, ok, fun x y hx hy => ?_, fun q hq n0 => ?_⟩
    · rw [ii, o1 _ _ (by omega) (by omega)]; exact hC.1
    · rw [ii, o1 _ _ (by omega) (by omega), o1 _ _ (by omega) (by omega), o1 _ _ (by omega) (by omega)]; exact hC.2 i hi
    · rw [ii]; exact c1 x y hx hy
    · rw [ii, o1 _ _ (by omega) (by omega)] at n0
      exact absurd (hz 4 q (by omega)) n0
  have s4 : cSt h4 (wAdd W C) (iAdd W I a) := by
    rw [e4']
    exact cSt.add s3 hn (by rw [e3, mR_SR, if_pos ⟨rfl, rfl⟩]) ha hne hCo (by rw [ii, o1 _ _ (by omega) (by omega)]; exact e0) (by rw [ii, o1 _ _ (by omega) (by omega)]; exact e10) (by rw [ii, o1 _ _ (by omega) (by omega)]; exact e11)
  have f5 : mFr2 (fun x k => x = 8 ∧ k = 7) h4 h5 := by rw [e5]; exact mFr2.SI ⟨rfl, rfl⟩
  have l4 : lwK (fun x k => x = 33 ∧ k = 1) h h4 := (f1.lk.wk (fun x k hx z => by unfold aDraw at z; omega)).tr ((by rw [e3]; exact lwK.SR (by omega) : lwK (fun x k => x = 33 ∧ k = 1) h1 h3).tr (by rw [e4']; exact lwK.SI (fun _ => ⟨rfl, rfl⟩)))
  refine K h5 (f5.1.sk (by rw [e4']; exact sk_SI hS3)) ?_ ?_ ((l4.wk (fun x k _ z => Or.inl z)).tr (f5.lk.wk (fun x k hx z => Or.inr z))) ?_ ?_ (s4.lo f5 (fun x k z => ⟨by omega, by unfold wl0; omega⟩))
  · rw [f5.1.1, e4', mN_SI, e3, mN_SR, f1.1.1]
  · rw [f5.1.2.1, e4', mT_SI, tt, f1.1.2.1]
  · rw [f5.2 _ _ (by omega), e4', mI_SI_s]
  · rw [e5, mI_SI_s, l4.1 8 7 (by omega) (fun z => by omega)]
end
