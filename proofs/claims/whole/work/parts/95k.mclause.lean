/-! clauses (model) -/
/-- where clause q begins -/
def lbM (M : List (Nat × Nat)) (q : Nat) : Nat := if q = 0 then 0 else (M.getD (q - 1) (0, 0)).2
/-- the model has read these clauses -/
def mcS (h : mH) (t : Nat → Nat) (n p : Nat) (C M : List (Nat × Nat)) : Prop := (∃ o V, mdS h t n p o C V) ∧ C.length ≤ p ∧ (mI h 47 19 = nI M.length ∧ M.length ≤ 12) ∧ (∀ q, q < M.length → mI h 60 q = nI (lbM M q) ∧ mI h 61 q = nI (M.getD q (0, 0)).1 ∧ mI h 62 q = nI (M.getD q (0, 0)).2) ∧ C.length = lbM M M.length
def aMc : Nat → Nat → Prop := fun a k => aMd a k ∨ (60 ≤ a ∧ a ≤ 62) ∨ (a = 47 ∧ k = 19)
theorem mdS.fr {A : Nat → Nat → Prop} {h h' : mH} {t : Nat → Nat} {n p o : Nat} {C V : List (Nat × Nat)} (R : mdS h t n p o C V) (f : mFr2 A h h') (h47 : ∀ k, k = 13 ∨ k = 14 ∨ k = 16 ∨ k = 17 ∨ k = 18 → ¬ A 47 k) (h5 : ∀ a k, a = 57 ∨ a = 58 ∨ a = 59 → ¬ A a k) : mdS h' t n p o C V := by
  obtain ⟨hS, ⟨e13, hp⟩, ⟨e14, hn⟩, ht, e16, ⟨e17, hc⟩, e18, hw⟩ := R
  exact ⟨f.1.sk hS, ⟨by rw [f.2 _ _ (h47 _ (by omega))]; exact e13, hp⟩, ⟨by rw [f.2 _ _ (h47 _ (by omega))]; exact e14, hn⟩, fun j hj => ⟨(ht j hj).1, by rw [f.2 _ _ (h5 _ _ (by omega))]; exact (ht j hj).2⟩, by rw [f.2 _ _ (h47 _ (by omega))]; exact e16, ⟨by rw [f.2 _ _ (h47 _ (by omega))]; exact e17, fun i hi => by rw [f.2 _ _ (h5 _ _ (by omega))]; exact hc i hi⟩, by rw [f.2 _ _ (h47 _ (by omega))]; exact e18, stV.cg V (fun i _ => f.2 _ _ (h5 _ _ (by omega))) hw⟩
theorem lbM_ap {M : List (Nat × Nat)} {x : Nat × Nat} {q : Nat} (h : q ≤ M.length) : lbM (M ++ [x]) q = lbM M q := by
  unfold lbM
  by_cases z : q = 0
  · rw [if_pos z, if_pos z]
  · rw [if_neg z, if_neg z, getD_ap (by omega)]
theorem lbM_l {M : List (Nat × Nat)} {x : Nat × Nat} : lbM (M ++ [x]) (M.length + 1) = x.2 := by
  unfold lbM
  rw [if_neg (by omega)]
  simp [List.getD]
/-- a fault stays over a clause -/
theorem fs_c3 {t : Nat → Nat} {n : Nat} {x : aTr} (h : (exS t n 118 x.1).1 ≠ 0) : (c3S t n x).1 = exS t n 118 x.1 := by
  obtain ⟨y1, ey1⟩ : ∃ y, y = c1S t n x := ⟨_, rfl⟩
  obtain ⟨y2, ey2⟩ : ∃ y, y = c2S t n x := ⟨_, rfl⟩
  have eq2 : y2 = cdS t n (pcS t n 5) 160 (exS t n 40 y1.1, y1.2) none none true := by rw [ey2, ey1]; unfold c2S; rfl
  have eq3 : c3S t n x = (exS t n 41 y2.1, y2.2) := by rw [ey2]; unfold c3S; rfl
  obtain ⟨r3, er3⟩ : ∃ r, r = sumS t n 6 (exS t n 118 x.1) := ⟨_, rfl⟩
  have ec1 : y1 = (r3.1, x.2 ++ r3.2) := by rw [ey1]; unfold c1S; rw [er3]
  have e1 : y1.1 = exS t n 118 x.1 := by rw [ec1, er3]; exact fs_sum h
  have h1 : y1.1.1 ≠ 0 := by rw [e1]; exact h
  rw [ex_f (by omega) h1] at eq2
  have e2 : y2.1 = y1.1 := by
    have := fs_cd (t := t) (n := n) (f := 159) (pc := pcS t n 5) (x := (y1.1, y1.2)) (a := none) (c := none) h1 (fs_pc h1 5)
    rw [eq2]; exact this
  rw [eq3]
  show exS t n 41 y2.1 = _
  rw [e2, ex_f (by omega) h1, e1]
section
variable {G : mG} {d : Nat} {b : Nat × Nat} {h : mH} {Q : Option mV → mH → Prop} {t : Nat → Nat} {n : Nat}
set_option maxHeartbeats 800000 in
theorem m_readsClause {p : Nat} {C M : List (Nat × Nat)} {z : aTr} (R : mcS h t n p C M) (ez : z = c3S t n ((0, p), C))
    (K1 : M.length < 12 → z.1.1 = 0 → ∀ h', mFr2 aMc h h' → mcS h' t n z.1.2 z.2 (M ++ [((c1S t n ((0, p), C)).2.length, z.2.length)]) → Q (some (.inl 1)) h')
    (K0 : M.length < 12 → z.1.1 ≠ 0 → ∀ h', mFr2 aMc h h' → mI h' 47 15 = -1000 * nI z.1.1 - nI z.1.2 → Q (some (.inl 0)) h')
    (K4 : M.length = 12 → ∀ h', mFr2 aMc h h' → mI h' 47 15 = -1000 * nI (if sgS t n (0, p) = 118 then 4 else 1) - nI p → Q (some (.inl 0)) h') : mC G kX12_readsClause (d + 7) b [.inr (some 47)] h Q := by
  have l10 : ¬ (1 : Int32) = 0 := by decide
  obtain ⟨⟨o, V, R⟩, hC, ⟨e19, hM⟩, hq, hst⟩ := R
  have hn := R.2.2.1.2
  have hpn := R.2.1.2
  have i118 : sgI (sgS t n (0, p)) = 118 ↔ sgS t n (0, p) = 118 := sgI_eq R.hb (show 118 < 256 by omega)
  have wA : ∀ a k, (fun a k => a = 47 ∧ (k = 13 ∨ k = 15 ∨ k = 20)) a k → aMc a k := fun a k z => Or.inl (by unfold aMd; omega)
  refine qX12_readsClause R.1 (m_here R ⟨_, rfl, R.1, fun u => ?_, fun u => ?_⟩)
  · have z1 := i118.mp u
    rw [e19, show (nI M.length = 12 ↔ M.length = 12) from nI_eq (b := 12) (by omega) (by omega)]
    refine ⟨fun v h3 e3 => ?_, fun v => ?_⟩
    · have lt : p < n := (sg_lt (t := t) (n := n) (s := (0, p)) (by omega)).2
      have m12 : M.length < 12 := by omega
      obtain ⟨f3, R3⟩ := R.one lt e3
      have e319 : mI h3 47 19 = nI M.length := by rw [f3.2 _ _ (by unfold aMd; omega)]; exact e19
      rw [e319, nI_clamp (show M.length < 2 ^ 31 by omega), R3.2.2.2.2.2.1.1]
      refine ⟨vp_in_nI m12 (by omega), fun h5 e5 h6 e6 h7 e7 => ?_⟩
      have f7 : mFr2 (fun a k => a = 60 ∨ (a = 47 ∧ (k = 16 ∨ k = 18))) h3 h7 := by
        rw [e7, e6, e5]
        exact ((mFr2.SI (A := fun a k => a = 60 ∨ (a = 47 ∧ (k = 16 ∨ k = 18))) (Or.inl rfl)).tr (mFr2.SI (A := fun a k => a = 60 ∨ (a = 47 ∧ (k = 16 ∨ k = 18))) (Or.inr ⟨rfl, Or.inl rfl⟩))).tr (mFr2.SI (A := fun a k => a = 60 ∨ (a = 47 ∧ (k = 16 ∨ k = 18))) (Or.inr ⟨rfl, Or.inr rfl⟩))
      have c60 : ∀ i, mI h7 60 i = if i = M.length then nI C.length else mI h 60 i := fun i => by
        rw [e7, mI_SI_a (by omega), e6, mI_SI_a (by omega), e5]
        by_cases q : i = M.length
        · rw [q, mI_SI_s, if_pos rfl]
        · rw [mI_SI_k q, if_neg q, f3.2 _ _ (by unfold aMd; omega)]
      have R7 : mdS h7 t n (p + 1) 0 C [] := by
        obtain ⟨hS, ⟨e13, hp⟩, ⟨e14, hn⟩, ht, e16, ⟨e17, hc⟩, e18, hw⟩ := R3
        exact ⟨f7.1.sk hS, ⟨by rw [f7.2 _ _ (by omega)]; exact e13, hp⟩, ⟨by rw [f7.2 _ _ (by omega)]; exact e14, hn⟩, fun j hj => ⟨(ht j hj).1, by rw [f7.2 _ _ (by omega)]; exact (ht j hj).2⟩, by rw [e7, mI_SI_k (by omega), e6, mI_SI_s]; rfl, ⟨by rw [f7.2 _ _ (by omega)]; exact e17, fun i hi => by rw [f7.2 _ _ (by omega)]; exact hc i hi⟩, by rw [e7, mI_SI_s]; rfl, trivial⟩
      have D7 : mbd (p + 1) 0 C [] := ⟨by show C.length + 0 ≤ p + 1; omega, Nat.zero_le _, fun c hc => (by cases hc), ⟨by omega, Nat.le_refl _⟩, trivial⟩
      have F7 : mFr2 aMc h h7 := (f3.wk (fun a k z => Or.inl z)).tr (f7.wk (fun a k z => by show aMc a k; unfold aMc aMd; omega))
      obtain ⟨y1, ey1⟩ : ∃ y, y = c1S t n ((0, p), C) := ⟨_, rfl⟩
      obtain ⟨y2, ey2⟩ : ∃ y, y = c2S t n ((0, p), C) := ⟨_, rfl⟩
      have eq2 : y2 = cdS t n (pcS t n 5) 160 (exS t n 40 y1.1, y1.2) none none true := by rw [ey2, ey1]; unfold c2S; rfl
      have eq3 : z = (exS t n 41 y2.1, y2.2) := by rw [ez, ey2]; unfold c3S; rfl
      have e118 : exS t n 118 (0, p) = (0, p + 1) := by unfold exS; rw [if_pos z1]; rfl
      obtain ⟨r, er⟩ : ∃ r, r = sumS t n 6 (0, p + 1) := ⟨_, rfl⟩
      have ec1 : y1 = (r.1, C ++ r.2) := by rw [ey1]; unfold c1S; rw [show exS t n 118 ((0, p), C).1 = (0, p + 1) from e118, er]
      rw [← ey1] at K1
      refine m_readsSum (d := d + 2) R7 D7 (by omega) (by omega) (by omega) (fun c V' e => by cases e) er (fun r0 h8 f8 R8 D8 => ⟨_, rfl, R8.1, fun _ => ?_, fun u => absurd u l10⟩) (fun r0 h8 f8 e8 => ⟨_, rfl, f8.1.sk R7.1, fun u => absurd rfl u, fun _ => ?_⟩)
      · have er0 : r.1 = (0, r.1.2) := by rw [← r0]
        have e819 : mI h8 47 19 = nI M.length := by rw [f8.2 _ _ (by unfold aMd; omega), f7.2 _ _ (by omega)]; exact e319
        rw [e819, nI_clamp (show M.length < 2 ^ 31 by omega), R8.2.2.2.2.2.1.1]
        refine ⟨vp_in_nI m12 (by omega), fun h11 e11 => ?_⟩
        have f11 : mFr2 (fun a k => a = 61) h8 h11 := by rw [e11]; exact mFr2.SI rfl
        have R11 := R8.fr f11 (fun k _ u => by omega) (fun a k _ u => by omega)
        have pr := pl_sum (t := t) (n := n) 6 (0, p + 1) (by rw [← er]; exact r0)
        rw [← er] at pr
        have pr' : r.2.length + (p + 1) ≤ r.1.2 := pr
        have eq2' : y2 = cdS t n (pcS t n 5) 160 (exS t n 40 (0, r.1.2), C ++ r.2) none none true := by
          rw [eq2, ec1]; show cdS t n (pcS t n 5) 160 (exS t n 40 r.1, C ++ r.2) none none true = _; rw [er0]
        refine m_readsCondition (d := d) R11 (by rw [List.length_append]; omega) (by omega) eq2' (fun w0 h12 f12 R12 D12 => ⟨_, rfl, R12.1, fun _ => ?_, fun u => absurd u l10⟩) (fun w0 h12 f12 e12 => ⟨_, rfl, f12.1.sk R11.1, fun u => absurd rfl u, fun _ => ?_⟩)
        · have e1219 : mI h12 47 19 = nI M.length := by rw [f12.2 _ _ (by unfold aMd; omega), f11.2 _ _ (by omega)]; exact e819
          rw [e1219, nI_clamp (show M.length < 2 ^ 31 by omega), R12.2.2.2.2.2.1.1]
          refine ⟨vp_in_nI m12 (by omega), fun h15 e15 h16 e16 => ?_⟩
          have e1519 : mI h15 47 19 = nI M.length := by rw [e15, mI_SI_a (by omega)]; exact e1219
          rw [e1519, nI_1] at e16
          have f16 : mFr2 (fun a k => a = 62 ∨ (a = 47 ∧ k = 19)) h12 h16 := by
            rw [e16, e15]
            exact (mFr2.SI (A := fun a k => a = 62 ∨ (a = 47 ∧ k = 19)) (Or.inl rfl)).tr (mFr2.SI (A := fun a k => a = 62 ∨ (a = 47 ∧ k = 19)) (Or.inr ⟨rfl, rfl⟩))
          have R16 := R12.fr f16 (fun k _ u => by omega) (fun a k _ u => by omega)
          have F12 : mFr2 aMc h h12 := ((F7.tr (f8.wk (fun a k z => Or.inl z))).tr (f11.wk (fun a k z => by show aMc a k; unfold aMc aMd; omega))).tr (f12.wk (fun a k z => Or.inl z))
          have ly : y1.2.length = (C ++ r.2).length := by rw [ec1]
          subst eq3
          refine K1 m12 w0 h16 (F12.tr (f16.wk (fun a k z => by show aMc a k; unfold aMc aMd; omega))) ⟨⟨0, [], R16⟩, ?_, ⟨by rw [e16, mI_SI_s]; simp, by simp; omega⟩, fun q hql => ?_, ?_⟩
          · have := D12.1
            show y2.2.length ≤ (exS t n 41 y2.1).2
            omega
          · have hql' : q < M.length + 1 := by simpa using hql
            have g60 : mI h16 60 q = mI h7 60 q := by
              rw [f16.2 _ _ (by omega), f12.2 _ _ (by unfold aMd; omega), f11.2 _ _ (by omega), f8.2 _ _ (by unfold aMd; omega)]
            have g61 : mI h16 61 q = mI h11 61 q := by
              rw [f16.2 _ _ (by omega), f12.2 _ _ (by unfold aMd; omega)]
            have g62 : mI h16 62 q = mI h15 62 q := by rw [e16, mI_SI_a (by omega)]
            rw [g60, g61, g62, c60, e11, e15, lbM_ap (by omega)]
            by_cases w : q = M.length
            · subst w
              rw [if_pos rfl, mI_SI_s, mI_SI_s]
              refine ⟨by rw [hst], ?_, ?_⟩
              · simp [List.getD, ly]
              · simp [List.getD]
            · obtain ⟨a1, a2, a3⟩ := hq q (by omega)
              rw [if_neg w, mI_SI_k w, mI_SI_k w, getD_ap (by omega)]
              refine ⟨a1, ?_, ?_⟩
              · rw [f8.2 _ _ (by unfold aMd; omega), f7.2 _ _ (by omega), f3.2 _ _ (by unfold aMd; omega)]; exact a2
              · rw [f12.2 _ _ (by unfold aMd; omega), f11.2 _ _ (by omega), f8.2 _ _ (by unfold aMd; omega), f7.2 _ _ (by omega), f3.2 _ _ (by unfold aMd; omega)]; exact a3
          · rw [show (M ++ [(y1.2.length, (exS t n 41 y2.1, y2.2).2.length)]).length = M.length + 1 from by simp, lbM_l]
        · have F12 : mFr2 aMc h h12 := ((F7.tr (f8.wk (fun a k z => Or.inl z))).tr (f11.wk (fun a k z => by show aMc a k; unfold aMc aMd; omega))).tr (f12.wk (fun a k z => Or.inl z))
          subst eq3
          exact K0 m12 w0 h12 F12 e12
      · have e31 : z.1 = r.1 := by
          have h1 : y1.1.1 ≠ 0 := by rw [ec1]; exact r0
          rw [ex_f (by omega) h1] at eq2
          have e2 : y2.1 = y1.1 := by
            have := fs_cd (t := t) (n := n) (f := 159) (pc := pcS t n 5) (x := (y1.1, y1.2)) (a := none) (c := none) h1 (fs_pc h1 5)
            rw [eq2]; exact this
          rw [eq3]
          show exS t n 41 y2.1 = r.1
          rw [e2, ex_f (by omega) h1, ec1]
        rw [e31] at K0
        exact K0 m12 r0 h8 (F7.tr (f8.wk (fun a k z => Or.inl z))) e8
    · rw [R.2.1.1]
      rw [if_pos z1] at K4
      exact m_wrongP (k := 4) R (fun h' f' R' e' => ⟨_, rfl, R'.1, Or.inl rfl, K4 v h' (f'.wk wA) e'⟩)
  · have z1 : sgS t n (0, p) ≠ 118 := fun x => u (i118.mpr x)
    have e118 : exS t n 118 (0, p) = (1, p) := by unfold exS; rw [if_neg z1]; rfl
    have e31 : z.1 = (1, p) := by
      rw [ez]
      have := fs_c3 (t := t) (n := n) (x := ((0, p), C)) (by show (exS t n 118 (0, p)).1 ≠ 0; rw [e118]; show (1 : Nat) ≠ 0; omega)
      rw [this]; exact e118
    rw [R.2.1.1]
    rw [e31] at K0
    rw [if_neg z1] at K4
    refine m_wrongP (k := 1) R (fun h' f' R' e' => ⟨_, rfl, R'.1, Or.inl rfl, ?_⟩)
    by_cases m12 : M.length = 12
    · exact K4 m12 h' (f'.wk wA) e'
    · exact K0 (by omega) (show (1 : Nat) ≠ 0 by omega) h' (f'.wk wA) e'
end
