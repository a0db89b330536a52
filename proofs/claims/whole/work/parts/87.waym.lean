/-! ways (model) -/
def sbN (S : Nat → Bool) (F : Nat → Nat) (k p e : Nat) : Nat := if 0 < rm4 e (k % 32) (k / 32) ∧ S (nk k e) = true then sm (F (4 * nk k e + e)) (1 + 10000 * tn e p) else FARn
def mnE (S : Nat → Bool) (F : Nat → Nat) (k p : Nat) : Nat → Nat
  | 0 => FARn
  | n + 1 => min (mnE S F k p n) (sbN S F k p n)
theorem mnE_le {S : Nat → Bool} {F : Nat → Nat} {k p : Nat} : ∀ n, mnE S F k p n ≤ FARn ∧ ∀ e, e < n → mnE S F k p n ≤ sbN S F k p e
  | 0 => ⟨Nat.le_refl _, fun e h => by omega⟩
  | n + 1 => by
    obtain ⟨h1, h2⟩ := mnE_le (S := S) (F := F) (k := k) (p := p) n
    show min (mnE S F k p n) (sbN S F k p n) ≤ FARn ∧ ∀ e, e < n + 1 → min (mnE S F k p n) (sbN S F k p n) ≤ sbN S F k p e
    refine ⟨by omega, fun e he => ?_⟩
    by_cases z : e = n
    · rw [z]; omega
    · have := h2 e (by omega); omega
theorem mnE_ex {S : Nat → Bool} {F : Nat → Nat} {k p : Nat} : ∀ n, mnE S F k p n = FARn ∨ ∃ e, e < n ∧ mnE S F k p n = sbN S F k p e
  | 0 => Or.inl rfl
  | n + 1 => by
    show min (mnE S F k p n) (sbN S F k p n) = FARn ∨ ∃ e, e < n + 1 ∧ min (mnE S F k p n) (sbN S F k p n) = sbN S F k p e
    by_cases z : mnE S F k p n ≤ sbN S F k p n
    · rw [Nat.min_eq_left z]
      rcases mnE_ex (S := S) (F := F) (k := k) (p := p) n with h | ⟨e, h1, h2⟩
      · exact Or.inl h
      · exact Or.inr ⟨e, by omega, h2⟩
    · rw [Nat.min_eq_right (by omega)]
      exact Or.inr ⟨n, by omega, rfl⟩
/-- what stands is the cost of a way -/
def wfG (S : Nat → Bool) (g : Nat) (F : Nat → Nat) : Prop := (∀ p, p < 4 → F (4 * g + p) = 0) ∧ ∀ k p, k < 1024 → k ≠ g → p < 4 → F (4 * k + p) ≤ FARn ∧ (F (4 * k + p) < FARn → ∃ e s t, e < 4 ∧ wy S g s t k e ∧ F (4 * k + p) = s + 10000 * (t + tn e p))
def wfX (S : Nat → Bool) (g : Nat) (F : Nat → Nat) : Prop := ∀ k p e, k < 1024 → k ≠ g → S k = true → p < 4 → e < 4 → F (4 * k + p) ≤ sbN S F k p e
theorem sm_ltF {a c : Nat} (h : sm a c < FARn) : a < FARn ∧ sm a c = a + c := by
  unfold sm at h ⊢
  by_cases h1 : FARn ≤ a
  · rw [if_pos h1] at h; omega
  · rw [if_neg h1] at h ⊢
    by_cases h2 : c < FARn
    · rw [if_pos h2] at h ⊢; omega
    · rw [if_neg h2] at h; omega
theorem sm_ad {a c : Nat} : sm a c ≤ a + c := by
  unfold sm
  by_cases h1 : FARn ≤ a
  · rw [if_pos h1]; omega
  · rw [if_neg h1]
    by_cases h2 : c < FARn
    · rw [if_pos h2]; omega
    · rw [if_neg h2]; omega
theorem sm_is {a c : Nat} (h1 : a < FARn) (h2 : c < FARn) : sm a c = a + c := by
  unfold sm
  rw [if_neg (by omega), if_pos h2]
theorem wfG.up {S : Nat → Bool} {g k p : Nat} {F : Nat → Nat} (G : wfG S g F) (hk : k < 1024) (hkg : k ≠ g) (hp : p < 4) (sk : S k = true) (hlt : mnE S F k p 4 < F (4 * k + p)) : wfG S g (upN F (4 * k + p) (mnE S F k p 4)) := by
  have hF := (G.2 k p hk hkg hp).1
  refine ⟨fun p' hp' => ?_, fun k' p' hk' hkg' hp' => ?_⟩
  · unfold upN; rw [if_neg (by omega)]; exact G.1 p' hp'
  · by_cases z : 4 * k' + p' = 4 * k + p
    · have e1 : k' = k := by omega
      have e2 : p' = p := by omega
      subst e1; subst e2
      unfold upN; rw [if_pos rfl]
      refine ⟨by omega, fun _ => ?_⟩
      rcases mnE_ex (S := S) (F := F) (k := k') (p := p') 4 with h | ⟨e, he, h⟩
      · omega
      · rw [h] at hlt ⊢
        unfold sbN at hlt ⊢
        by_cases c : 0 < rm4 e (k' % 32) (k' / 32) ∧ S (nk k' e) = true
        · rw [if_pos c] at hlt ⊢
          obtain ⟨u1, u2⟩ := sm_ltF (Nat.lt_of_lt_of_le hlt hF)
          rw [u2]
          have ok : okS S k' e := ⟨sk, c.1, c.2⟩
          obtain ⟨n1, -, -⟩ := nk_lt hk he c.1
          by_cases ng : nk k' e = g
          · refine ⟨e, 1, 0, he, wy_s.mpr ⟨ok, Or.inl ⟨ng, rfl, rfl⟩⟩, ?_⟩
            rw [ng, G.1 e he]; omega
          · obtain ⟨e', s, t, he', hw, ev⟩ := (G.2 (nk k' e) e n1 ng he).2 u1
            refine ⟨e, s + 1, t + tn e' e, he, wy_s.mpr ⟨ok, Or.inr ⟨ng, e', t, he', hw, rfl⟩⟩, ?_⟩
            rw [ev]; omega
        · rw [if_neg c] at hlt; omega
    · unfold upN; rw [if_neg z]; exact G.2 k' p' hk' hkg' hp'
theorem wf_lo {S : Nat → Bool} {g : Nat} {F : Nat → Nat} (G : wfG S g F) (X : wfX S g F) : ∀ s t k e p, k < 1024 → k ≠ g → e < 4 → p < 4 → wy S g s t k e → F (4 * k + p) ≤ s + 10000 * (t + tn e p)
  | 0, _, _, _, _, _, _, _, _, h => h.elim
  | s + 1, t, k, e, p, hk, hkg, he, hp, h => by
    obtain ⟨ok, h1⟩ := wy_s.mp h
    have x := X k p e hk hkg ok.1 hp he
    unfold sbN at x
    rw [if_pos ⟨ok.2.1, ok.2.2⟩] at x
    have a := sm_ad (a := F (4 * nk k e + e)) (c := 1 + 10000 * tn e p)
    obtain ⟨n1, -, -⟩ := nk_lt hk he ok.2.1
    rcases h1 with ⟨h1, h2, h3⟩ | ⟨hne, e', t', he', hw, ht⟩
    · rw [h1, G.1 e he] at a x
      omega
    · have := wf_lo G X s t' (nk k e) e' e n1 hne he' he hw
      omega
theorem wf_la {S : Nat → Bool} {g k p e t s : Nat} {F : Nat → Nat} (G : wfG S g F) (X : wfX S g F) (hg : g < 1024) (hk : k < 1024) (hkg : k ≠ g) (hp : p < 4) (he : e < 4) (h : la S g k p e t s) : F (4 * k + p) = s + 10000 * (t + tn e p) := by
  have lo := wf_lo G X s t k e p hk hkg he hp h.1
  obtain ⟨b1, b2, b3⟩ := lx_bd hk he hg (la_lx he h)
  have := tn_le e p
  obtain ⟨e', s', t', he', hw, ev⟩ := (G.2 k p hk hkg hp).2 (by unfold FARn; omega)
  have := h.2 e' s' t' he' hw
  omega
theorem sb_lx {S : Nat → Bool} {g k p e t s : Nat} {F : Nat → Nat} (G : wfG S g F) (X : wfX S g F) (hg : g < 1024) (hk : k < 1024) (he : e < 4) (h : lx S g k e t s) : sbN S F k p e = s + 10000 * (t + tn e p) := by
  obtain ⟨b1, b2, b3⟩ := lx_bd hk he hg h
  have := tn_le e p
  cases s with
  | zero => omega
  | succ s =>
    obtain ⟨ok, nx⟩ := lx_nx h
    unfold sbN
    rw [if_pos ⟨ok.2.1, ok.2.2⟩]
    obtain ⟨n1, -, -⟩ := nk_lt hk he ok.2.1
    by_cases ng : nk k e = g
    · rcases nx with ⟨-, h2, h3⟩ | ⟨u, -⟩
      · rw [ng, G.1 e he, sm_is (by unfold FARn; omega) (by unfold FARn; omega)]; omega
      · exact (u ng).elim
    · obtain ⟨e', t', he', hla, ht⟩ := la_nx h ng
      rw [wf_la G X hg n1 ng he he' hla, sm_is (by unfold FARn; omega) (by unfold FARn; omega)]
      omega
theorem sb_no {S : Nat → Bool} {g k p e : Nat} {F : Nat → Nat} (G : wfG S g F) (hk : k < 1024) (he : e < 4) (sk : S k = true) (no : ∀ s t, ¬ wy S g s t k e) : sbN S F k p e = FARn := by
  unfold sbN
  by_cases c : 0 < rm4 e (k % 32) (k / 32) ∧ S (nk k e) = true
  · rw [if_pos c]
    have ok : okS S k e := ⟨sk, c.1, c.2⟩
    obtain ⟨n1, -, -⟩ := nk_lt hk he c.1
    have ng : nk k e ≠ g := fun z => no 1 0 (wy_s.mpr ⟨ok, Or.inl ⟨z, rfl, rfl⟩⟩)
    have : ¬ F (4 * nk k e + e) < FARn := fun z => by
      obtain ⟨e', s, t, he', hw, -⟩ := (G.2 (nk k e) e n1 ng he).2 z
      exact no (s + 1) (t + tn e' e) (wy_s.mpr ⟨ok, Or.inr ⟨ng, e', t, he', hw, rfl⟩⟩)
    unfold sm
    rw [if_pos (by omega)]
  · rw [if_neg c]
theorem sbN_b {S : Nat → Bool} {F : Nat → Nat} {k p e : Nat} (hF : ∀ j, j < 4096 → F j ≤ FARn) (hk : k < 1024) (he : e < 4) : sbN S F k p e ≤ FARn + 10001 := by
  unfold sbN
  by_cases c : 0 < rm4 e (k % 32) (k / 32) ∧ S (nk k e) = true
  · rw [if_pos c]
    obtain ⟨n1, -, -⟩ := nk_lt hk he c.1
    have := hF (4 * nk k e + e) (by omega)
    have := sm_ad (a := F (4 * nk k e + e)) (c := 1 + 10000 * tn e p)
    have := tn_le e p
    omega
  · rw [if_neg c]; omega
theorem least_b {a c : Nat} (ha : a < 2147483648) (hc : c < 2147483648) : f_X12_least (nI a) (nI c) = nI (min a c) := by
  unfold f_X12_least
  by_cases h1 : c ≤ a
  · rw [if_pos (nI_le h1 (by omega)), Nat.min_eq_right h1]
  · rw [if_neg (nI_ge (by omega) (by omega)), Nat.min_eq_left (by omega)]
/-- the cells of the ways -/
def wfM (h : mH) (F : Nat → Nat) : Prop := ∀ j, j < 4096 → mI h 89 j = nI (F j) ∧ F j ≤ FARn
section
variable {G : mG} {d : Nat} {b : Nat × Nat} {h : mH} {Q : Option mV → mH → Prop}
theorem m_stepBy {S : Nat → Bool} {F : Nat → Nat} {k p e : Nat} (hS : mSk h) (hs : ∀ k, k < 1024 → mI h 88 k = b2i (S k)) (hF : wfM h F) (hk : k < 1024) (hp : p < 4) (he : e < 4) (K : Q (some (.inl (nI (sbN S F k p e)))) h) : mC G kX12_stepBy (d + 1) b [.inr (some 47), .inl (nI k), .inl (nI p), .inl (nI e)] h Q := by
  have hx : k % 32 < 32 := by omega
  have hy : k / 32 < 32 := by omega
  obtain ⟨i1, i2⟩ := st_in he hx hy
  unfold sbN at K
  refine qX12_stepBy _ _ _ hS ?_
  rw [f_cell_eq, (f_st e he).1, (f_st e he).2, show (32 : Int32) = nI 32 from rfl, ii_div (by omega) (by omega) (by omega), ii_rem (by omega) (by omega) (by omega), i1]
  refine ⟨fun z => ?_, fun z => ?_⟩
  · rw [if_neg (fun u => by omega)] at K; exact K
  · have hr : 0 < rm4 e (k % 32) (k / 32) := by omega
    obtain ⟨n1, n2, n3⟩ := nk_lt hk he hr
    have ek : nI 32 * nI (fwY e (k / 32)) + nI (fwX e (k % 32)) = nI (nk k e) := by rw [pk_mul, nI_add]; rfl
    have ej : 4 * nI (nk k e) + nI e = nI (4 * nk k e + e) := by rw [show (4 : Int32) = nI 4 from rfl, pk_mul, nI_add]
    rw [(i2 hr).1, (i2 hr).2, ek, ej, nI_clamp (show nk k e < 2 ^ 31 by omega), nI_clamp (show 4 * nk k e + e < 2 ^ 31 by omega), hs _ n1, b2i_0, (hF _ (show 4 * nk k e + e < 4096 by omega)).1]
    refine ⟨vp_in_nI n1 (by omega), fun u => ⟨vp_in_nI (by omega) (by omega), fun w3 e3 => ?_⟩, fun u => ?_⟩
    · have su : S (nk k e) = true := by revert u; cases S (nk k e) <;> simp
      rw [if_pos ⟨hr, su⟩] at K
      have ew : w3 = nI (1 + 10000 * tn e p) := by
        rw [e3]
        by_cases c : e = p
        · subst c
          rw [if_neg (fun u => u rfl), tn_s]; rfl
        · rw [if_pos (show ¬ nI p = nI e from fun u => c (nI_bk (by omega) (by omega) u).symm), tn_o c]; rfl
      rw [ew, sm_n (hF _ (by omega)).2 (by have := tn_le e p; unfold FARn; omega)]
      exact K
    · rw [if_neg (fun t => by rw [u] at t; exact absurd t.2 (by decide))] at K
      exact K
theorem m_bestBy {S : Nat → Bool} {F : Nat → Nat} {k p : Nat} (hS : mSk h) (hs : ∀ k, k < 1024 → mI h 88 k = b2i (S k)) (hF : wfM h F) (hk : k < 1024) (hp : p < 4) (K : Q (some (.inl (nI (mnE S F k p 4)))) h) : mC G kX12_bestBy (d + 2) b [.inr (some 47), .inl (nI k), .inl (nI p)] h Q := by
  refine qX12_bestBy _ _ hS ?_
  refine mloop (W := fun e h1 => mW G kX12_bestBy (d + 2) b 7 [some (.inr (some 47)), some (.inl (nI k)), some (.inl (nI p)), some (.inl (nI (mnE S F k p e))), some (.inl (nI e))] [] h1 Q) (P := fun e h1 => h1 = h) 4 ?_ ?_ 0 h (by omega) rfl
  · rintro e h1 he rfl ih
    have ih2 := ih h1 rfl
    refine qX12_bestBy_7 _ _ _ _ hS ⟨fun z => absurd z (nI_ge (b := 4) he (by omega)), fun _ => m_stepBy (S := S) hS hs hF hk hp he ⟨_, rfl, hS, ?_⟩⟩
    have b1 := (mnE_le (S := S) (F := F) (k := k) (p := p) e).1
    have b2 := sbN_b (S := S) (p := p) (fun j hj => (hF j hj).2) hk he
    unfold FARn at b1 b2
    rw [least_b (by omega) (by omega), nI_1]
    exact ih2
  · rintro h1 rfl
    exact qX12_bestBy_7 _ _ _ _ hS ⟨fun _ => K, fun z => absurd (nI_le (a := 4) (by omega) (by omega)) z⟩
end
