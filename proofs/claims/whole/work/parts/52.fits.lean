/-! THE CLASS'S STATE; fits, firstBad (class) -/
/-- rows of a note's memory for coasts that are not there are empty -/
def kcZ (h : mH) (W : aW) : Prop := ∀ v r, mT h v = 8 → 93 ≤ v → wn W * 32 ≤ r → r < 256 → mI h (v + 1) r = 0 ∧ mI h (v + 2) r = 0
/-- references to lines and notes go to lines and notes -/
def tyX (h : mH) : Prop := (∀ i lid, mR h 29 i = some lid → mT h lid = 6 ∧ 93 ≤ lid) ∧ ∀ a k v, mT h a = 6 → mR h (a + 1) k = some v → mT h v = 8 ∧ 93 ≤ v
def rcA (h : mH) (W : aW) (I : Nat → Nat) : Prop := ∀ c, c < wn W → ∃ ld nd, rch h (I c) W c ld nd
def cSt (h : mH) (W : aW) (I : Nat → Nat) : Prop := cWo h W I ∧ rcA h W I ∧ kcZ h W ∧ tyX h
theorem tyX.kp {h h' : mH} (k : mKp h h') (t : tyX h) : tyX h' := by
  obtain ⟨-, k2, -, k4⟩ := k
  unfold tyX at *
  rw [k2, k4]; exact t
/-- what following a coast may change, whichever it is -/
def aF1 : Nat → Nat → Prop := fun x k => 93 ≤ x ∨ x = 30 ∨ aEr x k
theorem aFl_f1 {h : mH} {a c x k : Nat} (ha : 93 ≤ a) (z : aFl h a c x k) : aF1 x k := by
  unfold aF1
  rcases z with z | z | z | z | ⟨v, z1, z2, z3, z4⟩
  · omega
  · omega
  · omega
  · rcases z with z | z | z
    · exact Or.inr (Or.inr z)
    · omega
    · omega
  · omega
theorem rch.fr {A : Nat → Nat → Prop} {h h' : mH} {a : Nat} {W : aW} {c ld nd : Nat} (f : mFr2 A h h') (h0 : ∀ k, 10 ≤ k → ¬ A a k) (h5 : ∀ k, ¬ A (a + 5) k) (r : rch h a W c ld nd) : rch h' a W c ld nd := by
  obtain ⟨r1, r2, r3, r4, r5, r6⟩ := r
  refine ⟨by rw [f.2 _ _ (h0 _ (by omega))]; exact r1, by rw [f.2 _ _ (h0 _ (by omega))]; exact r2, r3, r4, fun i hi w x y q1 q2 q3 => ?_, fun i hi w x y q1 q2 q3 => ?_⟩
  · rw [f.2 _ _ (h5 _)]; exact r5 i hi w x y q1 q2 q3
  · rw [f.2 _ _ (h5 _)]; exact r6 i hi w x y q1 q2 q3
theorem kcZ.fl {h h' : mH} {W : aW} {a c : Nat} (hS : mSk h) (ta : mT h a = 2) (hc : c < wn W) (f : mFr2 (aFl h a c) h h') (kz : kcZ h W) : kcZ h' W := by
  intro v r tv hv h1 h2
  rw [f.1.2.1] at tv
  have ap := ap82 hS tv ta
  have g : ∀ j, j = 1 ∨ j = 2 → mI h' (v + j) r = mI h (v + j) r := fun j hj => f.2 _ _ (fun z => by
    have a0 := ap j 0 (by omega) (by omega); have a3 := ap j 3 (by omega) (by omega); have a4 := ap j 4 (by omega) (by omega); have a5 := ap j 5 (by omega) (by omega)
    rcases z with z | z | z | z | ⟨v', z1, z2, z3, z4⟩
    · omega
    · omega
    · omega
    · rcases z with z | z | z
      · unfold aEr aEar at z; omega
      · omega
      · omega
    · omega)
  have := kz v r tv hv h1 h2
  rw [g 1 (by omega), g 2 (by omega)]; exact this
theorem cSt.fl {h h' : mH} {W : aW} {I : Nat → Nat} {c ld nd : Nat} (hS : mSk h) (hc : c < wn W) (st : cSt h W I) (f : mFr2 (aFl h (I c) c) h h') (hW' : cWo h' W I) (hr : rch h' (I c) W c ld nd) : cSt h' W I := by
  obtain ⟨s1, s2, s3, s4⟩ := st
  have ta := (s1.1.2.2 c hc).2.1
  have ha := (s1.2.1 c hc).1
  refine ⟨hW', fun c' hc' => ?_, s3.fl hS ta hc f, s4.kp f.1⟩
  by_cases e : c' = c
  · rw [e]; exact ⟨ld, nd, hr⟩
  · obtain ⟨ld', nd', r'⟩ := s2 c' hc'
    have hne : I c' ≠ I c := fun q => e (s1.2.2.1 c' c hc' hc q)
    have tx := (s1.1.2.2 c' hc').2.1
    have hx := (s1.2.1 c' hc').1
    exact ⟨ld', nd', r'.fr f (fun k _ => aFl_o (j := 0) hS ta ha tx hx hne (by omega)) (fun k => aFl_o (j := 5) hS ta ha tx hx hne (by omega))⟩
/-- a coast that has been followed to the end -/
def fol (h : mH) (W : aW) (I : Nat → Nat) (c : Nat) : Prop := ∀ i, i < wl W → rwB h (I c + 5) (i * 128) (ws W) (fun x y => wF W c i (32 * y + x))
theorem fol.fr {A : Nat → Nat → Prop} {h h' : mH} {W : aW} {I : Nat → Nat} {c : Nat} (f : mFr2 A h h') (h5 : ∀ k, ¬ A (I c + 5) k) (o : fol h W I c) : fol h' W I c := by
  intro i hi w x y q1 q2 q3
  rw [f.2 _ _ (h5 _)]; exact o i hi w x y q1 q2 q3
/-- what was followed stays followed -/
def flK (h h' : mH) (W : aW) (I : Nat → Nat) : Prop := ∀ c, c < wn W → fol h W I c → fol h' W I c
theorem flK.rf {h : mH} {W : aW} {I : Nat → Nat} : flK h h W I := fun _ _ o => o
theorem flK.tr {h1 h2 h3 : mH} {W : aW} {I : Nat → Nat} (a : flK h1 h2 W I) (b : flK h2 h3 W I) : flK h1 h3 W I := fun c hc o => b c hc (a c hc o)
theorem flK.fl {h h' : mH} {W : aW} {I : Nat → Nat} {c : Nat} (hS : mSk h) (hc : c < wn W) (s1 : cWo h W I) (f : mFr2 (aFl h (I c) c) h h') (o : fol h' W I c) : flK h h' W I := by
  intro c' hc' o'
  by_cases e : c' = c
  · rw [e]; exact o
  · have hne : I c' ≠ I c := fun q => e (s1.2.2.1 c' c hc' hc q)
    exact o'.fr f (fun k => aFl_o (j := 5) hS (s1.1.2.2 c hc).2.1 (s1.2.1 c hc).1 (s1.1.2.2 c' hc').2.1 (s1.2.1 c' hc').1 hne (by omega))
theorem flK.lo {A : Nat → Nat → Prop} {h h' : mH} {W : aW} {I : Nat → Nat} (s1 : cWo h W I) (f : mFr2 A h h') (hA : ∀ x k, 93 ≤ x → ¬ A x k) : flK h h' W I := by
  intro c hc o
  have := (s1.2.1 c hc).1
  exact o.fr f (fun k => hA _ _ (by omega))
section
variable {G : mG} {d : Nat} {b : Nat × Nat} {h : mH} {Q : Option mV → mH → Prop}
theorem c6_fol {c : Nat} {W : aW} {I : Nat → Nat} (hS : mSk h) (st : cSt h W I) (hc : c < wn W)
    (K : ∀ h', mFr2 (aFl h (I c) c) h h' → cSt h' W I → fol h' W I c → flK h h' W I → Q none h') : mC G kX6_follow (d + 5) b [.inr (some 28), .inr (some (I c))] h Q := by
  obtain ⟨ld, nd, r⟩ := st.2.1 c hc
  refine c6_follow hS st.1 hc r (fun h' nd' f w r' hn => ?_)
  suffices o : fol h' W I c from K h' f (st.fl hS hc f w r') o (flK.fl hS hc st.1 f o)
  intro i hi
  obtain ⟨-, -, -, -, r5, r6⟩ := r'
  by_cases e : i + 1 = wl W
  · have := r6 i e
    rw [hn i e] at this
    exact this.cg (fun w x y _ hx _ => by rw [pV_all W c i x y hx])
  · exact r5 i (by omega)
theorem c11_fits (v1 : Int32) {W : aW} {I : Nat → Nat} (hS : mSk h) (st : cSt h W I) (K1 : ¬ (0 ≤ v1.toInt ∧ v1.toInt < wn W) → Q (some (.inl (-1))) h)
    (K2 : ∀ c, c < wn W → v1 = nI c → ∀ h', mFr2 aF1 h h' → cSt h' W I → flK h h' W I → Q (some (.inl (b2i (wFit W c)))) h') : mC G kX11_fits (d + 6) b [.inr (some 8), .inl v1] h Q := by
  refine qX11_fits v1 hS (c0_get v1 hS st.1.1 (fun t => ⟨_, rfl, hS, fun _ => K1 t, fun y3 z => by cases z⟩) (fun c hc ec => ⟨_, rfl, hS, fun z => (by cases z), fun y3 z => ?_⟩))
  cases z
  have ta := (st.1.1.2.2 c hc).2.1
  have ha := (st.1.2.1 c hc).1
  refine ⟨ta, c6_fol hS st hc (fun h1 f1 s1 o1 k1 => ⟨rfl, f1.1.sk hS, by rw [f1.1.2.1]; exact ta, ?_⟩)⟩
  have K3 := K2 c hc ec h1 (f1.wk (fun x k z => aFl_f1 ha z)) s1 k1
  have fa := fit_all s1.1 c
  refine c6_badLine (d := d + 3) (f1.1.sk hS) s1.1 hc o1 (fun z => ⟨_, rfl, f1.1.sk hS, by rw [f1.1.2.1]; exact ta, fun w ew => ?_⟩) (fun i hb => ⟨_, rfl, f1.1.sk hS, by rw [f1.1.2.1]; exact ta, fun w ew => ?_⟩)
  · rw [fa.mp z] at K3
    rw [ew, if_neg (by decide)]; exact K3
  · have hf : wFit W c = false := by
      cases hq : wFit W c with
      | false => rfl
      | true => have := fa.mpr hq i hb.1; have := hb.2.1; omega
    have hl12 := st.1.2.2.2.2.2.2.1.2.1
    have := hb.1
    rw [hf] at K3
    rw [ew, if_pos (fun z => ?_)]; exact K3
    have := congrArg Int32.toInt z
    rw [nI_toI (by omega)] at this
    have e1 : ((-1 : Int32)).toInt = -1 := by decide
    omega
theorem c11_firstBad (v1 : Int32) {W : aW} {I : Nat → Nat} (hS : mSk h) (st : cSt h W I) (K1 : ¬ (0 ≤ v1.toInt ∧ v1.toInt < wn W) → Q (some (.inl (-1))) h)
    (K2 : ∀ c, c < wn W → v1 = nI c → ∀ h', mFr2 aF1 h h' → cSt h' W I → flK h h' W I → (wFit W c = true → Q (some (.inl (-2))) h') ∧ (wFit W c = false → ∀ i, wBad W c i → Q (some (.inl (nI i))) h')) : mC G kX11_firstBad (d + 6) b [.inr (some 8), .inl v1] h Q := by
  refine qX11_firstBad v1 hS (c0_get v1 hS st.1.1 (fun t => ⟨_, rfl, hS, fun _ => K1 t, fun y3 z => by cases z⟩) (fun c hc ec => ⟨_, rfl, hS, fun z => (by cases z), fun y3 z => ?_⟩))
  cases z
  have ta := (st.1.1.2.2 c hc).2.1
  have ha := (st.1.2.1 c hc).1
  refine ⟨ta, c6_fol hS st hc (fun h1 f1 s1 o1 k1 => ⟨rfl, f1.1.sk hS, by rw [f1.1.2.1]; exact ta, ?_⟩)⟩
  have K3 := K2 c hc ec h1 (f1.wk (fun x k z => aFl_f1 ha z)) s1 k1
  have fa := fit_all s1.1 c
  refine c6_badLine (d := d + 3) (f1.1.sk hS) s1.1 hc o1 (fun z => ⟨_, rfl, f1.1.sk hS, by rw [f1.1.2.1]; exact ta, fun w ew => ?_⟩) (fun i hb => ⟨_, rfl, f1.1.sk hS, by rw [f1.1.2.1]; exact ta, fun w ew => ?_⟩)
  · rw [ew, if_neg (by decide)]; exact K3.1 (fa.mp z)
  · have hf : wFit W c = false := by
      cases hq : wFit W c with
      | false => rfl
      | true => have := fa.mpr hq i hb.1; have := hb.2.1; omega
    have hl12 := st.1.2.2.2.2.2.2.1.2.1
    have := hb.1
    rw [ew, if_pos (fun z => ?_)]; exact K3.2 hf i hb
    have := congrArg Int32.toInt z
    rw [nI_toI (by omega)] at this
    have e1 : ((-1 : Int32)).toInt = -1 := by decide
    omega
theorem j_fill {A N : Nat} (v : Int32) (hS : mSk h) (tA : mT h A = 100) (lA : mL h A = N) (hN : N < 100000) (K : ∀ h', mFr2 (fun x _ => x = A) h h' → (∀ k, k < N → mI h' A k = v) → Q none h') : mC G kJ7_fill_53178 d b [.inr (some A), .inl v] h Q := by
  refine qJ7_fill_53178 A v tA hS ?_
  rw [lA]
  refine mloop (W := fun i h1 => mW G kJ7_fill_53178 d b 5 [some (.inr (some A)), some (.inl v), some (.inl (nI i)), some (.inl (nI N))] [] h1 Q)
    (P := fun i h1 => mFr2 (fun x _ => x = A) h h1 ∧ ∀ k, k < i → mI h1 A k = v) N ?_ ?_ 0 h (by omega) ⟨mFr2.rf, fun k z => by omega⟩
  · rintro i h1 hi ⟨f1, c1⟩ ih
    refine qJ7_fill_53178_5 A _ _ _ (by rw [f1.1.2.1]; exact tA) (f1.1.sk hS) ⟨fun z => absurd z (nI_ge hi (by omega)), fun _ => ⟨by rw [f1.1.2.2.1, lA]; exact vp_in_nI hi (by omega), fun h2 e2 => ?_⟩⟩
    rw [nI_clamp (by omega)] at e2
    rw [nI_1, e2]
    refine ih _ ⟨f1.tr (mFr2.SI rfl), fun k hk => ?_⟩
    by_cases e : k = i
    · rw [e, mI_SI_s]
    · rw [mI_SI_k e]; exact c1 k (by omega)
  · rintro h1 ⟨f1, c1⟩
    exact qJ7_fill_53178_5 A _ _ _ (by rw [f1.1.2.1]; exact tA) (f1.1.sk hS) ⟨fun _ => K h1 f1 c1, fun z => absurd (nI_le (Nat.le_refl _) (by omega)) z⟩
end
