/-! the calls, one by one: a choice, a law, a sounder -/
def chN (CH : aCc) (m : Nat) (v2 v3 v4 : Int32) : aCc := (CH.1 ||| m_shl 1 (nI m), fun i => if i = m then ((v2.toInt, v3.toInt), v4.toNatClampNeg) else CH.2 i)
section
variable {G : mG} {D : Nat} {b : Nat × Nat} {h : mH} {Q : Option mV → mH → Prop} {P : mH → Prop} {T : Prop → Prop} {W : aW} {I : Nat → Nat} {n j : Nat} {t : Nat → Nat} {CH : aCc}
theorem op_choice (v1 v2 v3 v4 : Int32) (C : cIn h W I n t CH j) (hj : j + 1 < 90000) (M : mIn h W n t CH) (hT : ∀ p : Prop, p → T p) (K : inK P j) : mC G kX11_choice (D + 30) b [.inr (some 8), .inl v1, .inl v2, .inl v3, .inl v4] h (opR G (D + 30) kX12_choice [.inr (some 47), .inl v1, .inl v2, .inl v3, .inl v4] T P Q) := by
  refine c11_choice v1 v2 v3 v4 C.1 (fun u => ⟨_, rfl, C.1, hT _ ?_⟩) (fun ok m hm e1 => ?_)
  · exact m_choice v1 v2 v3 v4 C.1 (fun _ => ⟨_, rfl, C.1, fun _ => K h W I n t CH j C M (by omega), fun w => absurd rfl w⟩) (fun w => absurd w u)
  · have d2 := wi9 ok.2.1
    have d3 := wi9 ok.2.2.1
    obtain ⟨q4, h4, e4⟩ := wi_ex (m := 3) (by omega) ok.2.2.2
    have c4 : v4.toNatClampNeg = q4 := by rw [e4]; exact nI_clamp (by omega)
    have bits : ∀ i, i < 32 → bt (chN CH m v2 v3 v4).1 i = (bt CH.1 i || decide (i = m)) := fun i hi => bt_setb _ (by omega) hi
    have okd : okDc ((v2.toInt, v3.toInt), v4.toNatClampNeg) := ⟨d2, d3, by rw [c4]; show q4 < 4; omega⟩
    -- the new choices stand
    have mk : ∀ (B : Prop) (x1 x2 x3 : Nat → Int32), (∀ i, i < 6 → bt CH.1 i = true → (x1 i = iI (CH.2 i).1.1 ∧ x2 i = iI (CH.2 i).1.2 ∧ x3 i = nI (CH.2 i).2) ∧ okDc (CH.2 i)) → ∀ i, i < 6 → bt (chN CH m v2 v3 v4).1 i = true → ((if i = m then v2 else x1 i) = iI ((chN CH m v2 v3 v4).2 i).1.1 ∧ (if i = m then v3 else x2 i) = iI ((chN CH m v2 v3 v4).2 i).1.2 ∧ (if i = m then v4 else x3 i) = nI ((chN CH m v2 v3 v4).2 i).2) ∧ okDc ((chN CH m v2 v3 v4).2 i) := by
      intro _ x1 x2 x3 hx i hi hb
      by_cases q : i = m
      · have e : (chN CH m v2 v3 v4).2 i = ((v2.toInt, v3.toInt), v4.toNatClampNeg) := if_pos q
        rw [e, if_pos q, if_pos q, if_pos q]
        exact ⟨⟨ii_of v2, ii_of v3, by show v4 = nI v4.toNatClampNeg; rw [c4]; exact e4⟩, okd⟩
      · have e : (chN CH m v2 v3 v4).2 i = CH.2 i := if_neg q
        rw [e, if_neg q, if_neg q, if_neg q]
        rw [bits i (by omega), decide_eq_false q, Bool.or_false] at hb
        exact hx i hi hb
    have lt6 : ∀ i, i < 32 → bt (chN CH m v2 v3 v4).1 i = true → i < 6 := fun i hi hb => by
      rw [bits i hi] at hb
      by_cases q : i = m
      · omega
      · rw [decide_eq_false q, Bool.or_false] at hb
        exact C.2.2.2.1.2.1 i hi hb
    obtain ⟨h1, eh1⟩ : ∃ h1, h1 = hChX h m v2 v3 v4 := ⟨_, rfl⟩
    have f1 : mFr2 (fun x k => (42 ≤ x ∧ x ≤ 44) ∨ (x = 41 ∧ k = 3) ∨ (x = 8 ∧ k = 7)) h h1 := by
      rw [eh1]
      unfold hChX
      have s : ∀ (hh : mH) a k v, ((42 ≤ a ∧ a ≤ 44) ∨ (a = 41 ∧ k = 3) ∨ (a = 8 ∧ k = 7)) → mFr2 (fun x k => (42 ≤ x ∧ x ≤ 44) ∨ (x = 41 ∧ k = 3) ∨ (x = 8 ∧ k = 7)) hh (mSI hh a k v) := fun hh a k v z => mFr2.SI z
      exact ((((s _ _ _ _ (by omega)).tr (s _ _ _ _ (by omega))).tr (s _ _ _ _ (by omega))).tr (s _ _ _ _ (by omega))).tr (s _ _ _ _ (by omega))
    have hS1 := f1.1.sk C.1
    have e8 : mI h1 8 7 = mI h 8 7 + 1 := by rw [eh1]; unfold hChX; rw [mI_SI_s]
    have e9 : mI h1 8 7 = nI (j + 1) := by rw [e8, C.2.2.2.2.2.1.1, nI_1]
    have ch1 : chX h1 (chN CH m v2 v3 v4) := by
      refine ⟨?_, lt6, fun i hi hb => ?_⟩
      · rw [eh1]; unfold hChX; rw [mI_SI_a (by omega), mI_SI_s, C.2.2.2.1.1]; rfl
      · have g := mk True (fun i => mI h 42 i) (fun i => mI h 43 i) (fun i => mI h 44 i) C.2.2.2.1.2.2 i hi hb
        have g1 : mI h1 42 i = if i = m then v2 else mI h 42 i := by
          rw [eh1]; unfold hChX; rw [mI_SI_a (by omega), mI_SI_a (by omega), mI_SI_a (by omega), mI_SI_a (by omega)]
          by_cases q : i = m
          · rw [q, mI_SI_s, if_pos rfl]
          · rw [mI_SI_k q, if_neg q]
        have g2 : mI h1 43 i = if i = m then v3 else mI h 43 i := by
          rw [eh1]; unfold hChX; rw [mI_SI_a (by omega), mI_SI_a (by omega), mI_SI_a (by omega)]
          by_cases q : i = m
          · rw [q, mI_SI_s, if_pos rfl]
          · rw [mI_SI_k q, if_neg q, mI_SI_a (by omega)]
        have g3 : mI h1 44 i = if i = m then v4 else mI h 44 i := by
          rw [eh1]; unfold hChX; rw [mI_SI_a (by omega), mI_SI_a (by omega)]
          by_cases q : i = m
          · rw [q, mI_SI_s, if_pos rfl]
          · rw [mI_SI_k q, if_neg q, mI_SI_a (by omega), mI_SI_a (by omega)]
        rw [g1, g2, g3]
        exact g
    have C1 : cIn h1 W I n t (chN CH m v2 v3 v4) (j + 1) := by
      obtain ⟨hS, st, tp, ch, sp, ⟨e8', -⟩, ca⟩ := C
      refine ⟨hS1, st.lo f1 (fun x k z => ⟨by omega, by unfold wl0; omega⟩), tp.lk f1.lk (by omega) (fun k => by omega), ch1, ?_, ⟨e9, hj⟩, ca.up e8' (by omega) e9 (fun x k z => f1.2 _ _ (by omega))⟩
      obtain ⟨l1, l2, q1, q2, q3, q4, q5⟩ := sp
      exact ⟨l1, l2, q1, by rw [f1.1.2.2.2]; exact q2, by rw [f1.1.2.2.2]; exact q3, by rw [f1.2 _ _ (by omega)]; exact q4, by rw [f1.2 _ _ (by omega)]; exact q5⟩
    have M1 : mIn h1 W n t CH := M.ci (fun x k q1 q2 => f1.2 _ _ (by omega))
    rw [← eh1]
    refine ⟨_, rfl, hS1, hT _ ?_⟩
    refine m_choice v1 v2 v3 v4 hS1 (fun u => absurd ok u) (fun _ m' hm' e1' => ?_)
    have q1 := nE e1 e1' (by omega) (by omega)
    subst q1
    obtain ⟨h2, eh2⟩ : ∃ h2, h2 = hChM h1 m v2 v3 v4 := ⟨_, rfl⟩
    have f2 : mFr2 (fun x k => (81 ≤ x ∧ x ≤ 83) ∨ (x = 47 ∧ k = 52)) h1 h2 := by
      rw [eh2]
      unfold hChM
      have s : ∀ (hh : mH) a k v, ((81 ≤ a ∧ a ≤ 83) ∨ (a = 47 ∧ k = 52)) → mFr2 (fun x k => (81 ≤ x ∧ x ≤ 83) ∨ (x = 47 ∧ k = 52)) hh (mSI hh a k v) := fun hh a k v z => mFr2.SI z
      exact (((s _ _ _ _ (by omega)).tr (s _ _ _ _ (by omega))).tr (s _ _ _ _ (by omega))).tr (s _ _ _ _ (by omega))
    rw [← eh2]
    refine ⟨_, rfl, f2.1.sk hS1, fun _ => K h2 W I n t (chN CH m v2 v3 v4) (j + 1) (C1.fr f2 (fun x k z => by omega)) ⟨M1.1.fr f2 (fun a k z q => by unfold dM at z; omega), ⟨by rw [f2.2 _ _ (by omega)]; exact M1.2.1.1, M1.2.1.2.1, fun i hi => ⟨(M1.2.1.2.2 i hi).1, by rw [f2.2 _ _ (by omega)]; exact (M1.2.1.2.2 i hi).2⟩⟩, ?_, lt6, fun i hi hb => ?_⟩ (by omega), fun u => absurd rfl u⟩
    · rw [eh2]; unfold hChM; rw [mI_SI_s, M1.2.2.1]; rfl
    · have g := mk True (fun i => mI h1 81 i) (fun i => mI h1 82 i) (fun i => mI h1 83 i) M1.2.2.2.2 i hi hb
      have g1 : mI h2 81 i = if i = m then v2 else mI h1 81 i := by
        rw [eh2]; unfold hChM; rw [mI_SI_a (by omega), mI_SI_a (by omega), mI_SI_a (by omega)]
        by_cases q : i = m
        · rw [q, mI_SI_s, if_pos rfl]
        · rw [mI_SI_k q, if_neg q]
      have g2 : mI h2 82 i = if i = m then v3 else mI h1 82 i := by
        rw [eh2]; unfold hChM; rw [mI_SI_a (by omega), mI_SI_a (by omega)]
        by_cases q : i = m
        · rw [q, mI_SI_s, if_pos rfl]
        · rw [mI_SI_k q, if_neg q, mI_SI_a (by omega)]
      have g3 : mI h2 83 i = if i = m then v4 else mI h1 83 i := by
        rw [eh2]; unfold hChM; rw [mI_SI_a (by omega)]
        by_cases q : i = m
        · rw [q, mI_SI_s, if_pos rfl]
        · rw [mI_SI_k q, if_neg q, mI_SI_a (by omega), mI_SI_a (by omega)]
      rw [g1, g2, g3]
      exact g
/-- caches over a change of references alone -/
theorem caI.ci {h' : mH} (c : caI h W I CH) (fk : flK h h' W I) (e : ∀ x k, caK x k → mI h' x k = mI h x k) : caI h' W I CH := by
  have f : mFr2 (fun x k => ¬ caK x k) h (mN h, mT h, mL h, mI h', mR h) := ⟨⟨rfl, rfl, rfl, rfl⟩, fun x k q => e x k (Classical.not_not.mp q)⟩
  have g : caI (mN h, mT h, mL h, mI h', mR h) W I CH := c.fr f fk (fun x k z q => q z)
  exact g
theorem m_law0 (v1 : Int32) {d : Nat} (hS : mSk h) (tp : tpM h n t) (K1 : ¬ okLwN n v1 → Q (some (.inl (-1))) h)
    (K2 : ∀ N, v1 = nI N → 1 ≤ N → N ≤ 160 → N ≤ n → (lwE t N).1 = 0 → ∀ h', mFr2 aLs h h' → mI h' 47 12 = 0 → lwD h' (lwZ t N).1.2 (lwZ t N).2.1 → Q (some (.inl (anS (lwE t N) (lwZ t N).2.1))) h')
    (K3 : ∀ N, v1 = nI N → 1 ≤ N → N ≤ 160 → N ≤ n → (lwE t N).1 ≠ 0 → ∀ h', mFr2 aLf h h' → mI h' 47 12 = 0 → Q (some (.inl (anS (lwE t N) (lwZ t N).2.1))) h') : mC G kX12_law (d + 8) b [.inr (some 47), .inl v1] h Q := by
  have hn := tp.2.1
  by_cases ok : okLwN n v1
  · obtain ⟨N, e, q1, q2, q3⟩ := ok
    rw [e]
    exact m_lawR (n := n) hS q2 q1 tp.1 q3 (by omega) (fun i hi => tp.2.2 i (by omega)) (K2 N e q1 q2 q3) (K3 N e q1 q2 q3)
  · have KK := K1 ok
    refine qX12_law _ hS ⟨fun _ => KK, fun z => ⟨fun le => ?_, fun _ => KK⟩⟩
    exfalso
    obtain ⟨N, e, q1, q2⟩ := wi160.mp z
    refine ok ⟨N, e, q1, q2, ?_⟩
    rw [tp.1, e, nI_leI (by omega) (by omega)] at le
    exact le
theorem mWo.lw {h1 h2 : mH} {Cc Mm : List (Nat × Nat)} (w : mWo h1 W) (f2 : mFr2 aLs h1 h2) (ty : tyM Cc Mm) (ld : lwD h2 Cc Mm) : mWo h2 (wLaw W (lwT Cc Mm)) := by
  obtain ⟨m1, m2, m3, m4, m5, m6, m7, m8⟩ := w
  have gd : ∀ x k, ((48 ≤ x ∧ x ≤ 56) ∨ (69 ≤ x ∧ x ≤ 77) ∨ (x = 47 ∧ (k = 0 ∨ k = 6 ∨ (33 ≤ k ∧ k ≤ 38)))) → ¬ aLs x k := fun x k q z => by unfold aLs aLf aMc aMd at z; omega
  refine ⟨mCh.fr f2 (fun a k z1 z2 => gd a k (by omega)) (gd 47 0 (by omega)) m1, soM.fr f2 (fun a k z1 z2 => gd a k (by omega)) (gd 47 6 (by omega)) m2, ty.M ld, ty.ok, lgM.fr f2 (fun a k z1 z2 => gd a k (by omega)) (gd 47 33 (by omega)) m5, ?_, by rw [f2.2 _ _ (gd 47 34 (by omega))]; exact m7, m8⟩
  obtain ⟨⟨b1, b2, b3, b4⟩, o⟩ := m6
  exact ⟨⟨by rw [f2.2 _ _ (gd _ _ (by omega))]; exact b1, by rw [f2.2 _ _ (gd _ _ (by omega))]; exact b2, by rw [f2.2 _ _ (gd _ _ (by omega))]; exact b3, by rw [f2.2 _ _ (gd _ _ (by omega))]; exact b4⟩, o⟩
theorem op_law (v1 : Int32) (C : cIn h W I n t CH j) (hj : j + 1 < 90000) (M : mIn h W n t CH) (hT : ∀ p : Prop, p → T p) (K : inK P j) : mC G kX11_law (D + 30) b [.inr (some 8), .inl v1] h (opR G (D + 30) kX12_law [.inr (some 47), .inl v1] T P Q) := by
  have okk : ∀ N, v1 = nI N → 1 ≤ N → N ≤ 160 → N ≤ n → okLwN n v1 := fun N e q1 q2 q3 => ⟨N, e, q1, q2, q3⟩
  have aRi : ∀ x k, 26 ≤ x → x < 93 → x ≠ 27 → ¬ aRl h x k := fun x k q1 q2 q3 => aRl_lo q2 (by omega) q3 (by omega)
  have lsf : ∀ x k, aLs x k → (47 ≤ x ∧ x ≤ 92) ∧ ¬ ((x = 47 ∧ k = 52) ∨ (81 ≤ x ∧ x ≤ 83)) := fun x k z => by unfold aLs aLf aMc aMd at z; omega
  have lff : ∀ x k, aLf x k → aLs x k := fun x k z => Or.inl z
  have lfd : ∀ x k, aLf x k → ¬ dM x k := fun x k z => by unfold aLf aMc aMd at z; unfold dM; omega
  refine c11_law v1 C.1 C.2.1 C.2.2.1 C.2.2.2.2.1 (fun u => ⟨_, rfl, C.1, hT _ ?_⟩) (fun N eN N1 N2 N3 e0 h1 hS1 l1 fk1 e9 sp1 s1 => ?_) (fun N eN N1 N2 N3 e0 h1 hS1 l1 e8 e9 sp1 s1 => ?_)
  · exact m_law0 v1 C.1 M.2.1 (fun _ => ⟨_, rfl, C.1, fun _ => K h W I n t CH j C M (by omega), fun w => absurd rfl w⟩) (fun N e q1 q2 q3 => (u (okk N e q1 q2 q3)).elim) (fun N e q1 q2 q3 => (u (okk N e q1 q2 q3)).elim)
  · have gi : ∀ x k, 26 ≤ x → x < 93 → x ≠ 27 → mI h1 x k = mI h x k := fun x k q1 q2 q3 => l1.2.2.2 x k (aRi x k q1 q2 q3)
    have g87 : mI h1 8 7 = mI h 8 7 := l1.2.2.2 8 7 (aRl_lo (by omega) (by omega) (by omega) (by omega))
    have C1 : cIn h1 W I 0 t CH j := ⟨hS1, s1, tp0 e9, C.2.2.2.1.ci (fun x k z => gi x k (by omega) (by omega) (by omega)), sp1, ⟨by rw [g87]; exact C.2.2.2.2.2.1.1, C.2.2.2.2.2.1.2⟩, C.2.2.2.2.2.2.ci fk1 (fun x k z => by
      by_cases q : x = 8
      · unfold caK at z
        have : k = 7 := by omega
        subst this; subst q; exact g87
      · exact gi x k (by unfold caK at z; omega) (by unfold caK at z; omega) (by unfold caK at z; omega))⟩
    have M1 : mIn h1 W n t CH := M.ci (fun x k q1 q2 => gi x k (by omega) (by omega) (by omega))
    refine ⟨_, rfl, hS1, hT _ ?_⟩
    refine m_law0 v1 hS1 M1.2.1 (fun u => (u (okk N eN N1 N2 N3)).elim) (fun N' e' q1 q2 q3 z0 => ?_) (fun N' e' q1 q2 q3 z0 h2 f2 e12 => ?_)
    · have := nE eN e' (by omega) (by omega)
      subst this
      exact absurd z0 e0
    · have := nE eN e' (by omega) (by omega)
      subst this
      exact ⟨_, rfl, f2.1.sk hS1, fun _ => K h2 W I 0 t CH j (C1.fr f2 (fun x k z => (lsf x k (lff x k z)).1)) (M1.tp f2 (fun x k z => (lsf x k (lff x k z)).2) (M1.1.fr f2 (fun a k z q => lfd a k q z)) (tm0 e12)) (by omega), fun u => absurd rfl u⟩
  · have gi : ∀ x k, 26 ≤ x → x < 93 → x ≠ 27 → mI h1 x k = mI h x k := fun x k q1 q2 q3 => l1.2.2.2 x k (fun z => by
      rcases z with z | z | z
      · omega
      · exact aRi x k q1 q2 q3 z
      · omega)
    have e9' : mI h1 8 7 = nI (j + 1) := by rw [e8, C.2.2.2.2.2.1.1, nI_1]
    obtain ⟨Z, eZ⟩ : ∃ Z, Z = lwZ t N := ⟨_, rfl⟩
    rw [← eZ] at s1 ⊢
    have C1 : cIn h1 (wLaw W (lwT Z.1.2 Z.2.1)) I 0 t CH (j + 1) := ⟨hS1, s1, tp0 e9, C.2.2.2.1.ci (fun x k z => gi x k (by omega) (by omega) (by omega)), sp1, ⟨e9', hj⟩, C.2.2.2.2.2.2.up C.2.2.2.2.2.1.1 (by omega) e9' (fun x k z => gi x k (by omega) (by omega) (by omega))⟩
    have M1 : mIn h1 W n t CH := M.ci (fun x k q1 q2 => gi x k (by omega) (by omega) (by omega))
    refine ⟨_, rfl, hS1, hT _ ?_⟩
    refine m_law0 v1 hS1 M1.2.1 (fun u => (u (okk N eN N1 N2 N3)).elim) (fun N' e' q1 q2 q3 z0 h2 f2 e12 ld => ?_) (fun N' e' q1 q2 q3 z0 => ?_)
    · have := nE eN e' (by omega) (by omega)
      subst this
      have ty := lw_ty (t := t) N2 e0
      rw [← eZ] at ty ld ⊢
      have w2 := M1.1.lw f2 ty ld
      exact ⟨_, rfl, f2.1.sk hS1, fun _ => K h2 _ I 0 t CH (j + 1) (C1.fr f2 (fun x k z => (lsf x k z).1)) (M1.tp f2 (fun x k z => (lsf x k z).2) w2 (tm0 e12)) (by omega), fun u => absurd rfl u⟩
    · have := nE eN e' (by omega) (by omega)
      subst this
      exact absurd e0 z0
end
