/-! numbers (model) -/
def aMd : Nat → Nat → Prop := fun a k => a = 58 ∨ a = 59 ∨ (a = 47 ∧ (k = 13 ∨ (15 ≤ k ∧ k ≤ 18) ∨ k = 20))
theorem mdS.p {h h' : mH} {t : Nat → Nat} {n p p' o : Nat} {C V : List (Nat × Nat)} (R : mdS h t n p o C V) (f : mFr2 (fun a k => a = 47 ∧ (k = 13 ∨ k = 15 ∨ k = 20)) h h') (e : mI h' 47 13 = nI p') (hp : p' ≤ n) : mdS h' t n p' o C V := by
  obtain ⟨hS, -, ⟨e14, hn⟩, ht, e16, ⟨e17, hc⟩, e18, hw⟩ := R
  exact ⟨f.1.sk hS, ⟨e, hp⟩, ⟨by rw [f.2 _ _ (by omega)]; exact e14, hn⟩, fun j hj => ⟨(ht j hj).1, by rw [f.2 _ _ (by omega)]; exact (ht j hj).2⟩, by rw [f.2 _ _ (by omega)]; exact e16, ⟨by rw [f.2 _ _ (by omega)]; exact e17, fun i hi => by rw [f.2 _ _ (by omega)]; exact hc i hi⟩, by rw [f.2 _ _ (by omega)]; exact e18, stV.cg V (fun i _ => f.2 _ _ (by omega)) hw⟩
theorem dg_a : ∀ c, c < 256 → ((nI c < 48 ↔ c < 48) ∧ (57 < nI c ↔ 57 < c)) := by decide +kernel
section
variable {G : mG} {d : Nat} {b : Nat × Nat} {h : mH} {Q : Option mV → mH → Prop}
theorem m_isDigit {t : Nat → Nat} {n p o : Nat} {C V : List (Nat × Nat)} (R : mdS h t n p o C V) (K : Q (some (.inl (b2i (isDg (sgS t n (0, p)))))) h) : mC G kX12_isDigit (d + 1) b [.inr (some 47)] h Q := by
  have hb := sg_b (t := t) (n := n) (s := (0, p)) (fun j hj => (R.2.2.2.1 j hj).1)
  refine qX12_isDigit R.1 (m_here R ⟨_, rfl, R.1, fun z => ?_, fun z => m_here R ⟨_, rfl, R.1, fun w5 e5 => ?_⟩⟩)
  · have e : isDg (sgS t n (0, p)) = false := by
      refine decide_eq_false (fun u => ?_)
      rcases hb with h1 | h1
      · unfold sgI at z
        rw [if_neg (show ¬ sgS t n (0, p) = 999 by omega), (dg_a _ h1).1] at z
        omega
      · omega
    rw [e] at K; exact K
  · rcases hb with h1 | h1
    · unfold sgI at z e5
      rw [if_neg (show ¬ sgS t n (0, p) = 999 by omega)] at z e5
      rw [(dg_a _ h1).1] at z
      have q := (dg_a _ h1).2
      by_cases u : 57 < sgS t n (0, p)
      · rw [if_pos (q.mpr u)] at e5
        have e : isDg (sgS t n (0, p)) = false := decide_eq_false (fun w => by omega)
        rw [e] at K; rw [e5]; exact K
      · rw [if_neg (fun w => u (q.mp w))] at e5
        have e : isDg (sgS t n (0, p)) = true := decide_eq_true ⟨by omega, by omega⟩
        rw [e] at K; rw [e5]; exact K
    · exfalso
      rw [h1] at z
      exact z (by decide)
theorem m_readsNumber {t : Nat → Nat} {n p o : Nat} {C V : List (Nat × Nat)} (R : mdS h t n p o C V)
    (K1 : ∀ h' p' v, mFr2 (fun a k => a = 47 ∧ (k = 13 ∨ k = 15 ∨ k = 20)) h h' → mdS h' t n p' o C V → mI h' 47 20 = nI v → nmS t n 5 (0, p) 0 = ((0, p'), v) → isDg (sgS t n (0, p')) = false → Q (some (.inl 1)) h')
    (K2 : ∀ h' p' v, mFr2 (fun a k => a = 47 ∧ (k = 13 ∨ k = 15 ∨ k = 20)) h h' → mdS h' t n p' o C V → nmS t n 5 (0, p) 0 = ((0, p'), v) → isDg (sgS t n (0, p')) = true → mI h' 47 15 = -1000 * 2 - nI p' → Q (some (.inl 0)) h') : mC G kX12_readsNumber (d + 2) b [.inr (some 47)] h Q := by
  refine qX12_readsNumber R.1 (fun h1 e1 => ?_)
  have hn := R.2.2.1.2
  rw [R.2.1.1]
  have lp : ∀ (f i v : Nat) (h1 : mH), i + f = 5 → mFr2 (fun a k => a = 47 ∧ (k = 13 ∨ k = 15 ∨ k = 20)) h h1 → mdS h1 t n (p + i) o C V → mI h1 47 20 = nI v → nmS t n f (0, p + i) v = nmS t n 5 (0, p) 0 → mW G kX12_readsNumber (d + 2) b 10 [some (.inr (some 47)), some (.inl (nI p))] [] h1 Q := by
    intro f
    induction f with
    | zero =>
      intro i v h1 hi f1 R1 e20 en
      have : i = 5 := by omega
      subst this
      have hp5 := R1.2.1.2
      refine qX12_readsNumber_10 _ R1.1 (m_isDigit R1 ⟨_, rfl, R1.1, fun z => ?_, fun z => ⟨fun u => ?_, fun u => qX12_wrongAt _ _ R1.1 (fun h2 e2 => ⟨_, rfl, ?_, Or.inl rfl, ?_⟩)⟩⟩)
      · rw [b2i_0] at z
        exact K1 h1 (p + 5) v f1 R1 e20 en.symm z
      · exact absurd (by rw [R1.2.1.1, show (5 : Int32) = nI 5 from rfl, nI_add]) u
      · rw [e2]; exact sk_SI R1.1
      · have f2 : mFr2 (fun a k => a = 47 ∧ (k = 13 ∨ k = 15 ∨ k = 20)) h1 h2 := by rw [e2]; exact mFr2.SI ⟨rfl, Or.inr (Or.inl rfl)⟩
        refine K2 h2 (p + 5) v (f1.tr f2) (R1.p f2 (by rw [e2, mI_SI_k (by omega)]; exact R1.2.1.1) hp5) en.symm ?_ (by rw [e2, mI_SI_s, R1.2.1.1])
        rw [b2i_0] at z
        revert z; cases isDg (sgS t n (0, p + 5)) <;> simp
    | succ f ih =>
      intro i v h1 hi f1 R1 e20 en
      have hpi := R1.2.1.2
      refine qX12_readsNumber_10 _ R1.1 (m_isDigit R1 ⟨_, rfl, R1.1, fun z => ?_, fun z => ⟨fun _ => m_here R1 ⟨_, rfl, R1.1, fun h5 e5 h6 e6 => ?_⟩, fun u => ?_⟩⟩)
      · rw [b2i_0] at z
        have e0 : nmS t n (f + 1) (0, p + i) v = ((0, p + i), v) := by
          unfold nmS
          rw [z, if_neg (by decide)]
        exact K1 h1 (p + i) v f1 R1 e20 (by rw [← en, e0]) z
      · have z1 : isDg (sgS t n (0, p + i)) = true := by
          rw [b2i_0] at z
          revert z; cases isDg (sgS t n (0, p + i)) <;> simp
        have z2 : 48 ≤ sgS t n (0, p + i) ∧ sgS t n (0, p + i) ≤ 57 := of_decide_eq_true z1
        have lt := (sg_lt (t := t) (n := n) (s := (0, p + i)) (by omega)).2
        have ev : 10 * nI v + sgI (sgS t n (0, p + i)) - 48 = nI (10 * v + (sgS t n (0, p + i) - 48)) := by
          unfold sgI
          rw [if_neg (by omega), show (10 : Int32) = nI 10 from rfl, pk_mul, nI_add, show (48 : Int32) = nI 48 from rfl, pk_sub (by omega)]
          congr 1; omega
        rw [e20, ev] at e5
        have e513 : mI h5 47 13 = nI (p + i) := by rw [e5, mI_SI_k (by omega)]; exact R1.2.1.1
        rw [e513, nI_1] at e6
        have f6 : mFr2 (fun a k => a = 47 ∧ (k = 13 ∨ k = 15 ∨ k = 20)) h1 h6 := by
          rw [e6, e5]
          exact (mFr2.SI (A := fun a k => a = 47 ∧ (k = 13 ∨ k = 15 ∨ k = 20)) ⟨rfl, Or.inr (Or.inr rfl)⟩).tr (mFr2.SI (A := fun a k => a = 47 ∧ (k = 13 ∨ k = 15 ∨ k = 20)) ⟨rfl, Or.inl rfl⟩)
        refine ih (i + 1) (10 * v + (sgS t n (0, p + i) - 48)) h6 (by omega) (f1.tr f6) (R1.p f6 (by rw [e6, mI_SI_s]; rfl) (by have lt' : p + i < n := lt; omega)) (by rw [e6, mI_SI_k (by omega), e5, mI_SI_s]) ?_
        rw [← en]
        conv => rhs; unfold nmS
        rw [if_pos z1]
        rfl
      · exfalso
        rw [R1.2.1.1, show (5 : Int32) = nI 5 from rfl, nI_add] at u
        have := nI_bk (by omega) (by omega) u
        omega
  have f1 : mFr2 (fun a k => a = 47 ∧ (k = 13 ∨ k = 15 ∨ k = 20)) h h1 := by rw [e1]; exact mFr2.SI ⟨rfl, Or.inr (Or.inr rfl)⟩
  exact lp 5 0 0 h1 (by omega) f1 (R.p f1 (by rw [e1, mI_SI_k (by omega)]; exact R.2.1.1) R.2.1.2) (by rw [e1, mI_SI_s]; rfl) rfl
end
