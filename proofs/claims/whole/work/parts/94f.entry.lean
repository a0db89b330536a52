/-! reading a law (class), from its beginning -/
theorem pl_c3 {t : Nat → Nat} {n : Nat} {x : aTr} (h : (c3S t n x).1.1 = 0) : x.1.1 = 0 ∧ (x.2.length ≤ x.1.2 → (c3S t n x).2.length ≤ (c3S t n x).1.2) := by
  obtain ⟨y1, ey1⟩ : ∃ y, y = c1S t n x := ⟨_, rfl⟩
  obtain ⟨y2, ey2⟩ : ∃ y, y = c2S t n x := ⟨_, rfl⟩
  have eq2 : y2 = cdS t n (pcS t n 5) 160 (exS t n 40 y1.1, y1.2) none none true := by rw [ey2, ey1]; unfold c2S; rfl
  have eq3 : c3S t n x = (exS t n 41 y2.1, y2.2) := by rw [ey2]; unfold c3S; rfl
  obtain ⟨r3, er3⟩ : ∃ r, r = sumS t n 6 (exS t n 118 x.1) := ⟨_, rfl⟩
  have ec1 : y1 = (r3.1, x.2 ++ r3.2) := by rw [ey1]; unfold c1S; rw [er3]
  rw [eq3] at h ⊢
  obtain ⟨p1, p2⟩ := pl_ex h
  have h40 : (exS t n 40 y1.1).1 = 0 := Classical.byContradiction (fun u => fk_cd (fun x z => fk_pc 5 x z) 160 (exS t n 40 y1.1, y1.2) none none true u (by rw [← eq2]; exact p2))
  obtain ⟨p3, p4⟩ := pl_ex h40
  have p5 : r3.1.1 = 0 := by rw [ec1] at p4; exact p4
  have h118 : (exS t n 118 x.1).1 = 0 := Classical.byContradiction (fun u => fk_sum 6 _ u (by rw [← er3]; exact p5))
  obtain ⟨p6, p7⟩ := pl_ex h118
  refine ⟨p7, fun hb => ?_⟩
  have q1 := pl_sum (t := t) (n := n) 6 (exS t n 118 x.1) (by rw [← er3]; exact p5)
  rw [← er3] at q1
  have l1 : y1.2.length = x.2.length + r3.2.length := by rw [ec1]; exact List.length_append
  have s1 : y1.1.2 = r3.1.2 := by rw [ec1]
  have q2 := pl_cd (t := t) (n := n) (pl_pc 5) (fun x z => fk_pc 5 x z) 160 none none true 0 (exS t n 40 y1.1, y1.2) (by show (cdS t n (pcS t n 5) 160 (exS t n 40 y1.1, y1.2) none none true).1.1 = 0; rw [← eq2]; exact p2) (by show y1.2.length + 0 ≤ (exS t n 40 y1.1).2; omega)
  have q2' : (cdS t n (pcS t n 5) 160 (exS t n 40 y1.1, y1.2) none none true).2.length + 0 ≤ (cdS t n (pcS t n 5) 160 (exS t n 40 y1.1, y1.2) none none true).1.2 := q2
  rw [← eq2] at q2'
  show y2.2.length ≤ (exS t n 41 y2.1).2
  omega
theorem pl_cl {t : Nat → Nat} {n : Nat} : ∀ f x M m, (clS t n f x M m).1.1.1 = 0 → x.1.1 = 0 ∧ (x.2.length ≤ x.1.2 → (clS t n f x M m).1.2.length ≤ (clS t n f x M m).1.1.2)
  | 0, x, M, m, h => ⟨h, fun z => z⟩
  | f + 1, x, M, false, h => ⟨h, fun z => z⟩
  | f + 1, x, M, true, h => by
    rw [cl_st] at h ⊢
    obtain ⟨y3, ey3⟩ : ∃ y, y = c3S t n x := ⟨_, rfl⟩
    rw [← ey3] at h ⊢
    obtain ⟨i1, i2⟩ := pl_cl f _ _ _ h
    have h3 : y3.1.1 = 0 := by
      have i1' : (if mrS n y3.1 then exS t n 59 y3.1 else y3.1).1 = 0 := i1
      by_cases z : mrS n y3.1 = true
      · rw [if_pos z] at i1'; exact ex_0 i1'
      · rw [if_neg z] at i1'; exact i1'
    obtain ⟨j1, j2⟩ := pl_c3 (t := t) (n := n) (x := x) (by rw [← ey3]; exact h3)
    rw [← ey3] at j2
    refine ⟨j1, fun hb => i2 ?_⟩
    have := j2 hb
    show y3.2.length ≤ (if mrS n y3.1 then exS t n 59 y3.1 else y3.1).2
    have i1' : (if mrS n y3.1 then exS t n 59 y3.1 else y3.1).1 = 0 := i1
    by_cases z : mrS n y3.1 = true
    · rw [if_pos z] at i1' ⊢
      have := pl_ex i1'
      omega
    · rw [if_neg z]; exact this
/-- the whole text -/
def lwZ (t : Nat → Nat) (n : Nat) : aTr × List (Nat × Nat) × Bool := clS t n 12 ((0, 0), []) [] true
def lwE (t : Nat → Nat) (n : Nat) : aTs := enS t n (lwZ t n).1.1 (lwZ t n).2.2
section
variable {G : mG} {d : Nat} {b : Nat × Nat} {h : mH} {Q : Option mV → mH → Prop}
theorem c4_read {l n : Nat} {t : Nat → Nat} (hS : mSk h) (hl : l = 16 ∨ l = 21) (hn : n ≤ 160) (ht : ∀ j, j < n → t j < 256 ∧ mI h 10 j = nI (t j))
    (K : ∀ h1 h', mFr2 (fun a k => (a = l ∧ (k = 4 ∨ k = 5)) ∨ (a = 27 ∧ (k = 2 ∨ k = 3 ∨ k = 4))) (mSR h 27 1 (some l)) h1 → rdK h1 h' l t n (lwE t n) (lwZ t n).1.2 (lwZ t n).2.1 → Q (some (.inl (anS (lwE t n) (lwZ t n).2.1))) h') : mC G kX4_read (d + 20) b [.inr (some 27), .inl (nI n), .inr (some l)] h Q := by
  refine qX4_read (d := d + 13) _ l (law_t hS hl) hS (fun h1 e1 => ?_)
  have hS1 : mSk h1 := by rw [e1]; exact sk_SR hS (skT_27 hS) (by decide)
  have r1 : mR h1 27 1 = some l := by rw [e1, mR_SR, if_pos ⟨rfl, rfl⟩]
  refine ⟨l, r1, law_t hS1 hl, qX3_clear l (law_t hS1 hl) hS1 (fun h2 e2 h3 e3 => ?_)⟩
  have f3 : mFr2 (fun a k => a = l ∧ (k = 4 ∨ k = 5)) h1 h3 := by
    rw [e3, e2]
    exact (mFr2.SI (A := fun a k => a = l ∧ (k = 4 ∨ k = 5)) ⟨rfl, Or.inl rfl⟩).tr (mFr2.SI (A := fun a k => a = l ∧ (k = 4 ∨ k = 5)) ⟨rfl, Or.inr rfl⟩)
  have hS3 := f3.1.sk hS1
  refine ⟨rfl, hS3, law_t hS3 hl, law_t hS3 hl, fun h4 e4 h5 e5 h6 e6 => ?_⟩
  have f6 : mFr2 (fun a k => a = 27 ∧ (k = 2 ∨ k = 3 ∨ k = 4)) h3 h6 := by
    rw [e6, e5, e4]
    exact ((mFr2.SI (A := fun a k => a = 27 ∧ (k = 2 ∨ k = 3 ∨ k = 4)) ⟨rfl, Or.inl rfl⟩).tr (mFr2.SI (A := fun a k => a = 27 ∧ (k = 2 ∨ k = 3 ∨ k = 4)) ⟨rfl, Or.inr (Or.inl rfl)⟩)).tr (mFr2.SI (A := fun a k => a = 27 ∧ (k = 2 ∨ k = 3 ∨ k = 4)) ⟨rfl, Or.inr (Or.inr rfl)⟩)
  have em : f_min (nI n) (nI 220) = nI n := by rw [fmin_n (by omega) (by omega), Nat.min_eq_left (by omega)]
  have i2 : mI h6 27 2 = nI n := by rw [e6, mI_SI_k (by omega), e5, mI_SI_k (by omega), e4, mI_SI_s, em]
  have i3 : mI h6 27 3 = nI 0 := by rw [e6, mI_SI_k (by omega), e5, mI_SI_s]; rfl
  have i4 : mI h6 27 4 = nI 0 := by rw [e6, mI_SI_s]; rfl
  have l4 : mI h6 l 4 = nI 0 := by rw [f6.2 _ _ (by omega), e3, mI_SI_k (by omega), e2, mI_SI_s]; rfl
  have l5 : mI h6 l 5 = nI 0 := by rw [f6.2 _ _ (by omega), e3, mI_SI_s]; rfl
  have F6 : mFr2 (fun a k => (a = l ∧ (k = 4 ∨ k = 5)) ∨ (a = 27 ∧ (k = 2 ∨ k = 3 ∨ k = 4))) (mSR h 27 1 (some l)) h6 := by
    rw [← e1]
    exact (f3.wk (fun a k z => Or.inl z)).tr (f6.wk (fun a k z => Or.inr z))
  have hS6 := f6.1.sk hS3
  have r6 : mR h6 27 1 = some l := by rw [f6.1.2.2.2, f3.1.2.2.2]; exact r1
  have R6 : rdS h6 l t n (0, 0) := by
    refine ⟨hS6, ⟨r6, hl, i2, hn, fun j hj => ⟨(ht j hj).1, ?_⟩⟩, i4, by omega, i3, Nat.zero_le _⟩
    rw [f6.2 _ _ (by omega), f3.2 _ _ (by omega), e1, mI_SR]
    exact (ht j hj).2
  have k6 : rdK h6 h6 l t n (0, 0) [] [] := ⟨mFr2.rf, R6, ⟨⟨0, by omega, l4⟩, fun _ _ => ⟨l4, fun i z => absurd z (by simp)⟩⟩, l5, rfl, fun _ _ q z => absurd z (by simp)⟩
  exact c4_readL (d := d) (z := lwZ t n) hl (fun h' a => K h6 h' F6 a) 12 0 h6 ((0, 0), []) [] true (by omega) (by simp) k6 rfl
end
/-- no fault: then few orders -/
theorem lw_len {t : Nat → Nat} {n : Nat} (h : (lwE t n).1 = 0) : (lwZ t n).1.1.1 = 0 ∧ (lwZ t n).1.2.length ≤ (lwZ t n).1.1.2 ∧ lwE t n = (lwZ t n).1.1 := by
  have e : lwE t n = (lwZ t n).1.1 := by
    unfold lwE enS at h ⊢
    by_cases z : (lwZ t n).2.2 = true
    · rw [if_pos z] at h
      exfalso
      refine ad_st h ?_
      split <;> omega
    · rw [if_neg z]
  rw [e] at h
  have q := pl_cl (t := t) (n := n) 12 ((0, 0), []) [] true
  have hz : clS t n 12 ((0, 0), []) [] true = lwZ t n := by unfold lwZ; exact rfl
  rw [hz] at q
  obtain ⟨x, ex⟩ : ∃ x, x = lwZ t n := ⟨_, rfl⟩
  rw [← ex] at q h e ⊢
  exact ⟨h, (q h).2 (Nat.zero_le _), e⟩
