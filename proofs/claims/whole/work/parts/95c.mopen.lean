/-! brackets (model) -/
section
variable {G : mG} {d : Nat} {b : Nat × Nat} {h : mH} {Q : Option mV → mH → Prop}
theorem m_wrongP {t : Nat → Nat} {n p o k : Nat} {C V : List (Nat × Nat)} (R : mdS h t n p o C V) (K : ∀ h', mFr2 (fun a k => a = 47 ∧ (k = 13 ∨ k = 15 ∨ k = 20)) h h' → mdS h' t n p o C V → mI h' 47 15 = -1000 * nI k - nI p → Q (some (.inl 0)) h') : mC G kX12_wrongAt d b [.inr (some 47), .inl (nI k), .inl (nI p)] h Q := by
  refine qX12_wrongAt _ _ R.1 (fun h2 e2 => ?_)
  have f2 : mFr2 (fun a k => a = 47 ∧ (k = 13 ∨ k = 15 ∨ k = 20)) h h2 := by rw [e2]; exact mFr2.SI ⟨rfl, Or.inr (Or.inl rfl)⟩
  exact K h2 f2 (R.p f2 (by rw [e2, mI_SI_k (by omega)]; exact R.2.1.1) R.2.1.2) (by rw [e2, mI_SI_s])
theorem m_opensW {t : Nat → Nat} {n p o w : Nat} {C V : List (Nat × Nat)} (R : mdS h t n p o C V) (ho : o ≤ 6) (hp : p < n) (hV : V.length < 180) (K0 : o = 6 → ∀ h', mFr2 aMd h h' → mI h' 47 15 = -1000 * 5 - nI p → Q (some (.inl 0)) h') (K1 : o < 6 → ∀ h', mFr2 aMd h h' → mdS h' t n (p + 1) (o + 1) C ((w, 0) :: V) → Q (some (.inl 1)) h') : mC G kX12_opens (d + 1) b [.inr (some 47), .inl (nI w)] h Q := by
  have R0 := R
  obtain ⟨hS, ⟨e13, -⟩, ⟨e14, hn⟩, ht, e16, ⟨e17, hc⟩, e18, hw⟩ := R
  have i6 : nI o = 6 ↔ o = 6 := nI_eq (b := 6) (by omega) (by omega)
  refine qX12_opens _ hS ?_
  rw [e16, i6, e13]
  refine ⟨fun z h1 e1 => ?_, fun z => m_wrongP (k := 5) R0 (fun h2 f2 _ e2 => ⟨_, rfl, f2.1.sk hS, Or.inl rfl, K0 z h2 (f2.wk (fun a k z => Or.inr (Or.inr ⟨z.1, by omega⟩))) e2⟩)⟩
  have e118 : mI h1 47 18 = nI V.length := by rw [e1, mI_SI_k (by omega)]; exact e18
  rw [e118, nI_clamp (show V.length < 2 ^ 31 by omega)]
  refine ⟨vp_in_nI hV (by omega), fun h3 e3 h4 e4 h5 e5 => ?_⟩
  have e318 : mI h3 47 18 = nI V.length := by rw [e3, mI_SI_a (by omega)]; exact e118
  rw [e318, nI_1] at e4
  have e413 : mI h4 47 13 = nI p := by rw [e4, mI_SI_k (by omega), e3, mI_SI_a (by omega), e1, mI_SI_k (by omega)]; exact e13
  rw [e413, nI_1] at e5
  rw [nI_1] at e1
  have f : mFr2 (fun a k => a = 59 ∨ (a = 47 ∧ (k = 13 ∨ k = 16 ∨ k = 18))) h h5 := by
    rw [e5, e4, e3, e1]
    exact (((mFr2.SI (A := fun a k => a = 59 ∨ (a = 47 ∧ (k = 13 ∨ k = 16 ∨ k = 18))) (Or.inr ⟨rfl, by omega⟩)).tr (mFr2.SI (A := fun a k => a = 59 ∨ (a = 47 ∧ (k = 13 ∨ k = 16 ∨ k = 18))) (Or.inl rfl))).tr (mFr2.SI (A := fun a k => a = 59 ∨ (a = 47 ∧ (k = 13 ∨ k = 16 ∨ k = 18))) (Or.inr ⟨rfl, by omega⟩))).tr (mFr2.SI (A := fun a k => a = 59 ∨ (a = 47 ∧ (k = 13 ∨ k = 16 ∨ k = 18))) (Or.inr ⟨rfl, by omega⟩))
  have ev : (1048576 : Int32) * nI w = nI (1048576 * w + 0) := by rw [show (1048576 : Int32) = nI 1048576 from rfl, pk_mul]; rfl
  have c59 : ∀ i, mI h5 59 i = if i = V.length then nI (1048576 * w + 0) else mI h 59 i := fun i => by
    rw [e5, mI_SI_a (by omega), e4, mI_SI_a (by omega), e3]
    by_cases q : i = V.length
    · rw [q, mI_SI_s, if_pos rfl, ev]
    · rw [mI_SI_k q, if_neg q, e1, mI_SI_a (by omega)]
  refine K1 (by omega) h5 (f.wk (fun a k z => by unfold aMd; omega)) ⟨f.1.sk hS, ⟨by rw [e5, mI_SI_s], hp⟩, ⟨by rw [f.2 _ _ (by omega)]; exact e14, hn⟩, fun j hj => ⟨(ht j hj).1, by rw [f.2 _ _ (by omega)]; exact (ht j hj).2⟩, ?_, ⟨by rw [f.2 _ _ (by omega)]; exact e17, fun i hi => by rw [f.2 _ _ (by omega)]; exact hc i hi⟩, ?_, ?_, ?_⟩
  · rw [e5, mI_SI_k (by omega), e4, mI_SI_k (by omega), e3, mI_SI_a (by omega), e1, mI_SI_s]
  · rw [e5, mI_SI_k (by omega), e4, mI_SI_s]; rfl
  · rw [c59, if_pos rfl]
  · exact stV.cg V (fun i hi => by rw [c59, if_neg (by omega)]) hw
end
