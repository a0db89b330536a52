/-! the text of a law (model): its cells -/
/-- the stack of what waits, its top first -/
def stV (h : mH) : List (Nat × Nat) → Prop
  | [] => True
  | c :: V => mI h 59 V.length = nI (1048576 * c.1 + c.2) ∧ stV h V
theorem stV.cg {h h' : mH} : ∀ V : List (Nat × Nat), (∀ i, i < V.length → mI h' 59 i = mI h 59 i) → stV h V → stV h' V
  | [], _, _ => trivial
  | c :: V, e, w => ⟨by rw [e V.length (by simp)]; exact w.1, stV.cg V (fun i hi => e i (by simp; omega)) w.2⟩
def cdV (h : mH) (C : List (Nat × Nat)) : Prop := ∀ i, i < C.length → mI h 58 i = nI (1048576 * (C.getD i (0, 0)).1 + (C.getD i (0, 0)).2)
/-- the model reads at place p, o open, orders C, what waits V -/
def mdS (h : mH) (t : Nat → Nat) (n p o : Nat) (C V : List (Nat × Nat)) : Prop := mSk h ∧ (mI h 47 13 = nI p ∧ p ≤ n) ∧ (mI h 47 14 = nI n ∧ n ≤ 160) ∧ (∀ j, j < n → t j < 256 ∧ mI h 57 j = sb8 (t j)) ∧ mI h 47 16 = nI o ∧ (mI h 47 17 = nI C.length ∧ cdV h C) ∧ (mI h 47 18 = nI V.length ∧ stV h V)
theorem sb8_and : ∀ c, c < 256 → (sb8 c &&& 255) = nI c := by decide +kernel
section
variable {G : mG} {d : Nat} {b : Nat × Nat} {h : mH} {Q : Option mV → mH → Prop}
theorem m_here {t : Nat → Nat} {n p o : Nat} {C V : List (Nat × Nat)} (R : mdS h t n p o C V) (K : Q (some (.inl (sgI (sgS t n (0, p))))) h) : mC G kX12_here d b [.inr (some 47)] h Q := by
  obtain ⟨hS, ⟨e13, hp⟩, ⟨e14, hn⟩, ht, -⟩ := R
  refine qX12_here hS ?_
  rw [e13, e14, nI_leI (by omega) (by omega), nI_clamp (show p < 2 ^ 31 by omega)]
  unfold sgS at K
  rw [if_pos rfl] at K
  refine ⟨fun z => ?_, fun z => ⟨vp_in_nI (by omega) (by omega), ?_⟩⟩
  · rw [if_neg (show ¬ p < n by omega)] at K; exact K
  · rw [if_pos (show p < n by omega)] at K
    obtain ⟨c1, c2⟩ := ht p (by omega)
    rw [c2, sb8_and _ c1]
    unfold sgI at K
    rw [if_neg (show ¬ t p = 999 by omega)] at K
    exact K
theorem m_notesC {t : Nat → Nat} {n p o op v : Nat} {C V : List (Nat × Nat)} (R : mdS h t n p o C V) (hC : C.length < 180) (K : ∀ h', mFr2 (fun a k => a = 58 ∨ (a = 47 ∧ k = 17)) h h' → mdS h' t n p o (C ++ [(op, v)]) V → Q none h') : mC G kX12_notes d b [.inr (some 47), .inl (nI op), .inl (nI v)] h Q := by
  obtain ⟨hS, ⟨e13, hp⟩, ⟨e14, hn⟩, ht, e16, ⟨e17, hc⟩, e18, hw⟩ := R
  refine qX12_notes _ _ hS ?_
  rw [e17, nI_clamp (show C.length < 2 ^ 31 by omega)]
  refine ⟨vp_in_nI hC (by omega), fun h2 e2 h3 e3 => ?_⟩
  have e27 : mI h2 47 17 = nI C.length := by rw [e2, mI_SI_a (by omega)]; exact e17
  rw [e27, nI_1] at e3
  have f : mFr2 (fun a k => a = 58 ∨ (a = 47 ∧ k = 17)) h h3 := by
    rw [e3, e2]
    exact (mFr2.SI (A := fun a k => a = 58 ∨ (a = 47 ∧ k = 17)) (Or.inl rfl)).tr (mFr2.SI (A := fun a k => a = 58 ∨ (a = 47 ∧ k = 17)) (Or.inr ⟨rfl, rfl⟩))
  refine K h3 f ⟨f.1.sk hS, ⟨by rw [f.2 _ _ (by omega)]; exact e13, hp⟩, ⟨by rw [f.2 _ _ (by omega)]; exact e14, hn⟩, fun j hj => ⟨(ht j hj).1, by rw [f.2 _ _ (by omega)]; exact (ht j hj).2⟩, by rw [f.2 _ _ (by omega)]; exact e16, ⟨?_, fun i hi => ?_⟩, by rw [f.2 _ _ (by omega)]; exact e18, stV.cg V (fun i _ => f.2 _ _ (by omega)) hw⟩
  · rw [e3, mI_SI_s]; simp
  · have hi1 : i < C.length + 1 := by simpa using hi
    have ev : (1048576 : Int32) * nI op + nI v = nI (1048576 * op + v) := by rw [show (1048576 : Int32) = nI 1048576 from rfl, pk_mul, nI_add]
    by_cases q : i = C.length
    · subst q
      rw [e3, mI_SI_a (by omega), e2, mI_SI_s, ev]
      simp [List.getD]
    · rw [e3, mI_SI_a (by omega), e2, mI_SI_k q, hc i (by omega)]
      rw [show (C ++ [(op, v)]).getD i (0, 0) = C.getD i (0, 0) from by simp [List.getD, List.getElem?_append_left (show i < C.length by omega)]]
theorem m_top {t : Nat → Nat} {n p o : Nat} {C V : List (Nat × Nat)} (R : mdS h t n p o C V) (hV : V.length ≤ 180) (hb : ∀ c ∈ V, c.1 ≤ 14 ∧ c.2 < 1048576) (K1 : V = [] → Q (some (.inl (-1))) h) (K2 : ∀ c V', V = c :: V' → Q (some (.inl (nI c.1))) h) : mC G kX12_top d b [.inr (some 47)] h Q := by
  obtain ⟨hS, -, -, -, -, -, e18, hw⟩ := R
  refine qX12_top hS ?_
  rw [e18]
  cases hV0 : V with
  | nil => exact ⟨fun z => absurd rfl z, fun _ => K1 hV0⟩
  | cons c V' =>
    rw [hV0] at hw hV
    have hl : V'.length + 1 ≤ 180 := by simpa using hV
    have hc := hb c (by rw [hV0]; simp)
    have e1 : nI (c :: V').length - 1 = nI V'.length := by
      rw [show (c :: V').length = V'.length + 1 from rfl, show (1 : Int32) = nI 1 from rfl, pk_sub (by omega)]; rfl
    rw [e1, nI_clamp (show V'.length < 2 ^ 31 by omega), hw.1]
    refine ⟨fun _ => ⟨vp_in_nI (by omega) (by omega), ?_⟩, fun z => ?_⟩
    · rw [show (1048576 : Int32) = nI 1048576 from rfl, ii_div (by omega) (by omega) (by omega), show (1048576 * c.1 + c.2) / 1048576 = c.1 by omega]
      exact K2 c V' hV0
    · have := nI_bk (b := 0) (show (c :: V').length < 2 ^ 31 by simp; omega) (by omega) z
      simp at this
end
