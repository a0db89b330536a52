/-! reading a law (class), from its beginning -/
theorem pl_c3 {t : Nat → Nat} {n : Nat} {x : aTr} (h : (c3S t n x).1.1 = 0) : x.1.1 = 0 ∧ (x.2.length ≤ x.1.2 → (c3S t n x).2.length ≤ (c3S t n x).1.2) := by
  obtain ⟨y1, ey1⟩ : ∃ y, y = c1S t n x := ⟨_, rfl⟩
  obtain ⟨y2, ey2⟩ : ∃ y, y = c2S t n x := ⟨_, rfl⟩
  have eq2 : y2 = cdS t n (pcS t n 5) 160 (exS t n 40 y1.1, y1.2) none none true := by rw [ey2, ey1]; unfold c2S; rfl
  have eq3 : c3S t n x = (exS t n 41 y2.1, y2.2) := by rw [ey2]; unfold c3S; rfl
  obtain ⟨r3, er3⟩ : ∃ r, r = sumS t n 6 (exS t n 118 x.1) := ⟨_, rfl⟩
  have ec1 : y1 = (r3.1, x.2 ++ r3.2) := by rw [ey1]; unfold c1S; rw [er3]
  rw [eq3] at h ⊢
  obtain ⟨p1, p2⟩ := pl_ex h
  have h40 : (exS t n 40 y1.1).1 = 0 := Classical.byContradiction (fun u => fk_cd (fun x z => fk_pc 5 x z) 160 (exS t n 40 y1.1, y1.2) none none true u (by rw [← eq2]; exact p2))
  obtain ⟨p3, p4⟩ := pl_ex h40
  have p5 : r3.1.1 = 0 := by rw [ec1] at p4; exact p4
  have h118 : (exS t n 118 x.1).1 = 0 := Classical.byContradiction (fun u => fk_sum 6 _ u (by rw [← er3]; exact p5))
  obtain ⟨p6, p7⟩ := pl_ex h118
  refine ⟨p7, fun hb => ?_⟩
  have q1 := pl_sum (t := t) (n := n) 6 (exS t n 118 x.1) (by rw [← er3]; exact p5)
  rw [← er3] at q1
  have l1 : y1.2.length = x.2.length + r3.2.length := by rw [ec1]; exact List.length_append
  have s1 : y1.1.2 = r3.1.2 := by rw [ec1]
  have q2 := pl_cd (t := t) (n := n) (pl_pc 5) (fun x z => fk_pc 5 x z) 160 none none true 0 (exS t n 40 y1.1, y1.2) (by show (cdS t n (pcS t n 5) 160 (exS t n 40 y1.1, y1.2) none none true).1.1 = 0; rw [← eq2]; exact p2) (by show y1.2.length + 0 ≤ (exS t n 40 y1.1).2; omega)
  have q2' : (cdS t n (pcS t n 5) 160 (exS t n 40 y1.1, y1.2) none none true).2.length + 0 ≤ (cdS t n (pcS t n 5) 160 (exS t n 40 y1.1, y1.2) none none true).1.2 := q2
  rw [← eq2] at q2'
  show y2.2.length ≤ (exS t n 41 y2.1).2
  omega
theorem pl_cl {t : Nat → Nat} {n : Nat} : ∀ f x M m, (clS t n f x M m).1.1.1 = 0 → x.1.1 = 0 ∧ (x.2.length ≤ x.1.2 → (clS t n f x M m).1.2.length ≤ (clS t n f x M m).1.1.2)
  | 0, x, M, m, h => ⟨h, fun z => z⟩
  | f + 1, x, M, false, h => ⟨h, fun z => z⟩
  | f + 1, x, M, true, h => by
    rw [cl_st] at h ⊢
    obtain ⟨y3, ey3⟩ : ∃ y, y = c3S t n x := ⟨_, rfl⟩
    rw [← ey3] at h ⊢
    obtain ⟨i1, i2⟩ := pl_cl f _ _ _ h
    have h3 : y3.1.1 = 0 := by
      have i1' : (if mrS n y3.1 then exS t n 59 y3.1 else y3.1).1 = 0 := i1
      by_cases z : mrS n y3.1 = true
      · rw [if_pos z] at i1'; exact ex_0 i1'
      · rw [if_neg z] at i1'; exact i1'
    obtain ⟨j1, j2⟩ := pl_c3 (t := t) (n := n) (x := x) (by rw [← ey3]; exact h3)
    rw [← ey3] at j2
    refine ⟨j1, fun hb => i2 ?_⟩
    have := j2 hb
    show y3.2.length ≤ (if mrS n y3.1 then exS t n 59 y3.1 else y3.1).2
    have i1' : (if mrS n y3.1 then exS t n 59 y3.1 else y3.1).1 = 0 := i1
    by_cases z : mrS n y3.1 = true
    · rw [if_pos z] at i1' ⊢
      have := pl_ex i1'
      omega
    · rw [if_neg z]; exact this
/-- the whole text -/
def lwZ (t : Nat → Nat) (n : Nat) : aTr × List (Nat × Nat) × Bool := clS t n 12 ((0, 0), []) [] true
def lwE (t : Nat → Nat) (n : Nat) : aTs := enS t n (lwZ t n).1.1 (lwZ t n).2.2
section
variable {G : mG} {d : Nat} {b : Nat × Nat} {h : mH} {Q : Option mV → mH → Prop}
theorem c4_read {l n m : Nat} {t : Nat → Nat} (hS : mSk h) (hl : l = 16 ∨ l = 21) (hn : n ≤ 160) (hT : tpX h m t) (hm : n ≤ m)
    (K : ∀ h1 h', mFr2 (fun a k => (a = l ∧ (k = 4 ∨ k = 5)) ∨ (a = 27 ∧ (k = 2 ∨ k = 3 ∨ k = 4)) ∨ a = 93) (mSR h 27 1 (some l)) h1 → rdK h1 h' l t n (lwE t n) (lwZ t n).1.2 (lwZ t n).2.1 → Q (some (.inl (anS (lwE t n) (lwZ t n).2.1))) h') : mC G kX4_read (d + 20) b [.inr (some 27), .inr (some 9), .inl (nI n), .inr (some l)] h Q := by
  obtain ⟨t9, hm220, htp⟩ := hT
  refine qX4_read (d := d + 13) _ l (law_t hS hl) hS (fun h1 e1 => ?_)
  have hS1 : mSk h1 := by rw [e1]; exact sk_SR hS (skT_27 hS) (by decide)
  have r1 : mR h1 27 1 = some l := by rw [e1, mR_SR, if_pos ⟨rfl, rfl⟩]
  refine ⟨l, r1, law_t hS1 hl, qX3_clear l (law_t hS1 hl) hS1 (fun h2 e2 h3 e3 => ?_)⟩
  have f3 : mFr2 (fun a k => a = l ∧ (k = 4 ∨ k = 5)) h1 h3 := by
    rw [e3, e2]
    exact (mFr2.SI (A := fun a k => a = l ∧ (k = 4 ∨ k = 5)) ⟨rfl, Or.inl rfl⟩).tr (mFr2.SI (A := fun a k => a = l ∧ (k = 4 ∨ k = 5)) ⟨rfl, Or.inr rfl⟩)
  have hS3 := f3.1.sk hS1
  refine ⟨rfl, hS3, law_t hS3 hl, law_t hS3 hl, fun h4 e4 => ?_⟩
  have f4 : mFr2 (fun a k => a = 27 ∧ k = 2) h3 h4 := by rw [e4]; exact mFr2.SI ⟨rfl, rfl⟩
  have hS4 := f4.1.sk hS3
  have em : f_min (nI n) (nI 160) = nI n := by rw [fmin_n (by omega) (by omega), Nat.min_eq_left (by omega)]
  have j2 : mI h4 27 2 = nI n := by rw [e4, mI_SI_s, em]
  have tp4 : ∀ a k, a = 9 ∨ a = 10 → mI h4 a k = mI h a k := fun a k q => by rw [f4.2 _ _ (by omega), f3.2 _ _ (by omega), e1, mI_SR]
  refine mloop (W := fun i h5 => mW G kX4_read (d + 20) b 28 [some (.inr (some 27)), some (.inr (some 9)), none, none, some (.inl (nI i)), none] [] h5 Q)
    (P := fun i h5 => mFr2 (fun a _ => a = 93) h4 h5 ∧ ∀ j, j < i → mI h5 93 j = nI (t j)) n ?_ ?_ 0 h4 (Nat.zero_le _) ⟨mFr2.rf, fun j z => absurd z (Nat.not_lt_zero _)⟩
  · rintro i h5 hi ⟨f5, c5⟩ ih
    have hS5 := f5.1.sk hS4
    have tp5 : tpX h5 m t := ⟨by rw [f5.2 _ _ (by omega), tp4 _ _ (Or.inl rfl)]; exact t9, hm220, fun j hj => ⟨(htp j hj).1, by rw [f5.2 _ _ (by omega), tp4 _ _ (Or.inr rfl)]; exact (htp j hj).2⟩⟩
    refine qX4_read_28 (d := d + 13) _ hS5 ⟨fun z => absurd z (by rw [f5.2 _ _ (by omega), j2]; exact nI_ge (b := n) (by omega) (by omega)), fun _ => ?_⟩
    refine c9_at hS5 tp5 (by omega) ⟨_, rfl, hS5, vp_in_nI (by omega) (by omega), fun h6 e6 => ?_⟩
    rw [nI_clamp (by omega)] at e6
    rw [nI_1]
    have f6 : mFr2 (fun a _ => a = 93) h5 h6 := by rw [e6]; exact mFr2.SI rfl
    refine ih h6 ⟨f5.tr f6, fun j hj => ?_⟩
    by_cases q : j = i
    · rw [q, e6, mI_SI_s]
    · rw [e6, mI_SI_k q]; exact c5 j (by omega)
  · rintro h5 ⟨f5, c5⟩
    have hS5 := f5.1.sk hS4
    refine qX4_read_28 (d := d + 13) _ hS5 ⟨fun _ h6 e6 h7 e7 => ?_, fun z => absurd (by rw [f5.2 _ _ (by omega), j2]; exact nI_le (a := n) (Nat.le_refl _) (by omega)) z⟩
    have f7 : mFr2 (fun a k => a = 27 ∧ (k = 3 ∨ k = 4)) h5 h7 := by
      rw [e7, e6]
      exact (mFr2.SI (A := fun a k => a = 27 ∧ (k = 3 ∨ k = 4)) ⟨rfl, Or.inl rfl⟩).tr (mFr2.SI (A := fun a k => a = 27 ∧ (k = 3 ∨ k = 4)) ⟨rfl, Or.inr rfl⟩)
    have i2 : mI h7 27 2 = nI n := by rw [f7.2 _ _ (by omega), f5.2 _ _ (by omega)]; exact j2
    have i3 : mI h7 27 3 = nI 0 := by rw [e7, mI_SI_k (by omega), e6, mI_SI_s]; rfl
    have i4 : mI h7 27 4 = nI 0 := by rw [e7, mI_SI_s]; rfl
    have l4 : mI h7 l 4 = nI 0 := by rw [f7.2 _ _ (by omega), f5.2 _ _ (by omega), f4.2 _ _ (by omega), e3, mI_SI_k (by omega), e2, mI_SI_s]; rfl
    have l5 : mI h7 l 5 = nI 0 := by rw [f7.2 _ _ (by omega), f5.2 _ _ (by omega), f4.2 _ _ (by omega), e3, mI_SI_s]; rfl
    have F7 : mFr2 (fun a k => (a = l ∧ (k = 4 ∨ k = 5)) ∨ (a = 27 ∧ (k = 2 ∨ k = 3 ∨ k = 4)) ∨ a = 93) (mSR h 27 1 (some l)) h7 := by
      rw [← e1]
      exact (((f3.wk (fun a k z => Or.inl z)).tr (f4.wk (fun a k z => Or.inr (Or.inl ⟨z.1, Or.inl z.2⟩)))).tr (f5.wk (fun a k z => Or.inr (Or.inr z)))).tr (f7.wk (fun a k z => Or.inr (Or.inl ⟨z.1, Or.inr z.2⟩)))
    have hS7 := f7.1.sk hS5
    have r7 : mR h7 27 1 = some l := by rw [f7.1.2.2.2, f5.1.2.2.2, f4.1.2.2.2, f3.1.2.2.2]; exact r1
    have R7 : rdS h7 l t n (0, 0) := by
      refine ⟨hS7, ⟨r7, hl, i2, hn, fun j hj => ⟨(htp j (by omega)).1, ?_⟩⟩, i4, by omega, i3, Nat.zero_le _⟩
      rw [f7.2 _ _ (by omega)]
      exact c5 j hj
    have k7 : rdK h7 h7 l t n (0, 0) [] [] := ⟨mFr2.rf, R7, ⟨⟨0, by omega, l4⟩, fun _ _ => ⟨l4, fun i z => absurd z (by simp)⟩⟩, l5, rfl, fun _ _ q z => absurd z (by simp)⟩
    exact c4_readL (d := d) (z := lwZ t n) hl (fun h' a => K h7 h' F7 a) 12 0 h7 ((0, 0), []) [] true (by omega) (by simp) k7 rfl
end
/-- no fault: then few orders -/
theorem lw_len {t : Nat → Nat} {n : Nat} (h : (lwE t n).1 = 0) : (lwZ t n).1.1.1 = 0 ∧ (lwZ t n).1.2.length ≤ (lwZ t n).1.1.2 ∧ lwE t n = (lwZ t n).1.1 := by
  have e : lwE t n = (lwZ t n).1.1 := by
    unfold lwE enS at h ⊢
    by_cases z : (lwZ t n).2.2 = true
    · rw [if_pos z] at h
      exfalso
      refine ad_st h ?_
      split <;> omega
    · rw [if_neg z]
  rw [e] at h
  have q := pl_cl (t := t) (n := n) 12 ((0, 0), []) [] true
  have hz : clS t n 12 ((0, 0), []) [] true = lwZ t n := by unfold lwZ; exact rfl
  rw [hz] at q
  obtain ⟨x, ex⟩ : ∃ x, x = lwZ t n := ⟨_, rfl⟩
  rw [← ex] at q h e ⊢
  exact ⟨h, (q h).2 (Nat.zero_le _), e⟩
