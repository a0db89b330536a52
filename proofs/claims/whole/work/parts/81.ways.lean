/-! ways: steps, turns -/
def nk (k q : Nat) : Nat := 32 * fwY q (k / 32) + fwX q (k % 32)
def okS (S : Nat → Bool) (k q : Nat) : Prop := S k = true ∧ 0 < rm4 q (k % 32) (k / 32) ∧ S (nk k q) = true
def tn (e q : Nat) : Nat := if e = q then 0 else 1
theorem tn_s (q : Nat) : tn q q = 0 := if_pos rfl
theorem tn_o {e q : Nat} (h : e ≠ q) : tn e q = 1 := if_neg h
theorem tn_le (e q : Nat) : tn e q ≤ 1 := by unfold tn; split <;> omega
theorem tn_0 {e q : Nat} (h : tn e q = 0) : e = q := by
  apply Classical.byContradiction; intro z; rw [tn_o z] at h; omega
/-- a way to g of s steps with t turns from k, first in the direction q -/
def wy (S : Nat → Bool) (g : Nat) : Nat → Nat → Nat → Nat → Prop
  | 0, _, _, _ => False
  | s + 1, t, k, q => okS S k q ∧ ((nk k q = g ∧ s = 0 ∧ t = 0) ∨ (nk k q ≠ g ∧ ∃ e t', e < 4 ∧ wy S g s t' (nk k q) e ∧ t = t' + tn e q))
theorem wy_s {S : Nat → Bool} {g s t k q : Nat} : wy S g (s + 1) t k q ↔ (okS S k q ∧ ((nk k q = g ∧ s = 0 ∧ t = 0) ∨ (nk k q ≠ g ∧ ∃ e t', e < 4 ∧ wy S g s t' (nk k q) e ∧ t = t' + tn e q))) := Iff.rfl
theorem wy_t {S : Nat → Bool} {g : Nat} : ∀ s t k q, wy S g s t k q → t < s
  | 0, _, _, _, h => h.elim
  | s + 1, t, k, q, h => by
    obtain ⟨-, ⟨-, -, h1⟩ | ⟨-, e, t', -, h2, h3⟩⟩ := wy_s.mp h
    · omega
    · have := wy_t s t' _ e h2
      have := tn_le e q
      omega
theorem nk_lt {k q : Nat} (hk : k < 1024) (hq : q < 4) (hr : 0 < rm4 q (k % 32) (k / 32)) : nk k q < 1024 ∧ nk k q % 32 = fwX q (k % 32) ∧ nk k q / 32 = fwY q (k / 32) := by
  obtain ⟨g1, g2, -⟩ := rm4_fw hq (show k % 32 < 32 by omega) (show k / 32 < 32 by omega) hr
  unfold nk
  omega
/-- fewest turns, then fewest steps -/
def lx (S : Nat → Bool) (g k q t s : Nat) : Prop := wy S g s t k q ∧ ∀ s' t', wy S g s' t' k q → t < t' ∨ (t = t' ∧ s ≤ s')
theorem lx_one {S : Nat → Bool} {g k q t s t' s' : Nat} (h1 : lx S g k q t s) (h2 : lx S g k q t' s') : t = t' ∧ s = s' := by
  have a := h1.2 s' t' h2.1
  have b := h2.2 s t h1.1
  omega
theorem lea_ex {P : Nat → Prop} : ∀ n, P n → ∃ n, P n ∧ ∀ m, P m → n ≤ m := by
  intro n
  induction n using Nat.strongRecOn with
  | ind n ih =>
    intro h
    by_cases z : ∃ m, m < n ∧ P m
    · obtain ⟨m, h1, h2⟩ := z
      exact ih m h1 h2
    · exact ⟨n, h, fun m hm => Nat.le_of_not_lt (fun y => z ⟨m, y, hm⟩)⟩
theorem lx_ex {S : Nat → Bool} {g k q s t : Nat} (h : wy S g s t k q) : ∃ t' s', lx S g k q t' s' := by
  obtain ⟨t', ⟨s1, h1⟩, m1⟩ := lea_ex (P := fun t => ∃ s, wy S g s t k q) t ⟨s, h⟩
  obtain ⟨s', h2, m2⟩ := lea_ex (P := fun s => wy S g s t' k q) s1 h1
  refine ⟨t', s', h2, fun s2 t2 q2 => ?_⟩
  have := m1 t2 ⟨s2, q2⟩
  by_cases e : t' = t2
  · subst e; exact Or.inr ⟨rfl, m2 s2 q2⟩
  · exact Or.inl (by omega)
/-- the best way goes on by a best one -/
theorem lx_nx {S : Nat → Bool} {g k q t s : Nat} (h : lx S g k q t (s + 1)) : okS S k q ∧ ((nk k q = g ∧ s = 0 ∧ t = 0) ∨ (nk k q ≠ g ∧ ∃ e t', e < 4 ∧ lx S g (nk k q) e t' s ∧ t = t' + tn e q)) := by
  obtain ⟨h1, h2⟩ := h
  obtain ⟨ok, h3 | ⟨hne, e, t', he, h4, h5⟩⟩ := wy_s.mp h1
  · exact ⟨ok, Or.inl h3⟩
  · refine ⟨ok, Or.inr ⟨hne, e, t', he, ⟨h4, fun s2 t2 q2 => ?_⟩, h5⟩⟩
    have := h2 (s2 + 1) (t2 + tn e q) (wy_s.mpr ⟨ok, Or.inr ⟨hne, e, t2, he, q2, rfl⟩⟩)
    omega
/-- the best behind p: it goes by e -/
def la (S : Nat → Bool) (g k p e t s : Nat) : Prop := wy S g s t k e ∧ ∀ e' s' t', e' < 4 → wy S g s' t' k e' → t + tn e p < t' + tn e' p ∨ (t + tn e p = t' + tn e' p ∧ s ≤ s')
theorem la_lx {S : Nat → Bool} {g k p e t s : Nat} (he : e < 4) (h : la S g k p e t s) : lx S g k e t s := by
  refine ⟨h.1, fun s' t' q => ?_⟩
  have := h.2 e s' t' he q
  omega
theorem la_nx {S : Nat → Bool} {g k q t s : Nat} (h : lx S g k q t (s + 1)) (hne : nk k q ≠ g) : ∃ e t', e < 4 ∧ la S g (nk k q) q e t' s ∧ t = t' + tn e q := by
  obtain ⟨h1, h2⟩ := h
  obtain ⟨ok, h3 | ⟨-, e, t', he, h4, h5⟩⟩ := wy_s.mp h1
  · exact (hne h3.1).elim
  · refine ⟨e, t', he, ⟨h4, fun e2 s2 t2 he2 q2 => ?_⟩, h5⟩
    have := h2 (s2 + 1) (t2 + tn e2 q) (wy_s.mpr ⟨ok, Or.inr ⟨hne, e2, t2, he2, q2, rfl⟩⟩)
    omega
def adB (V : Nat → Bool) (k : Nat) : Nat → Bool := fun i => decide (i = k) || V i
/-- a best way is at no cell twice -/
theorem la_vs {S : Nat → Bool} {g : Nat} : ∀ s t k p e, k < 1024 → k ≠ g → e < 4 → la S g k p e t s → ∃ V : Nat → Bool, s ≤ cnt V 1024 ∧ ∀ c, c < 1024 → V c = true → c ≠ g ∧ ∃ e' s' t', e' < 4 ∧ wy S g s' t' c e' ∧ s' ≤ s ∧ t' ≤ t ∧ (t' = t → e' = e) := by
  intro s
  induction s with
  | zero => intro t k p e _ _ _ h; exact h.1.elim
  | succ s ih =>
    intro t k p e hk hkg he h
    obtain ⟨ok, ⟨h1, h2, h3⟩ | ⟨hne, -⟩⟩ := wy_s.mp h.1
    · subst h2
      refine ⟨fun i => decide (i = k), ?_, fun c hc hV => ?_⟩
      · have := cnt_one (p := fun _ => false) (q := fun i => decide (i = k)) (u := k) 1024 hk rfl (decide_eq_true rfl) (fun i _ z => decide_eq_false z)
        omega
      · have := of_decide_eq_true hV
        subst this
        exact ⟨hkg, e, 1, t, he, h.1, Nat.le_refl _, Nat.le_refl _, fun _ => rfl⟩
    · obtain ⟨n1, -, -⟩ := nk_lt hk he ok.2.1
      obtain ⟨e1, t1, he1, hl, ht⟩ := la_nx (la_lx he h) hne
      obtain ⟨V, hV, hc⟩ := ih t1 (nk k e) e e1 n1 hne he1 hl
      have ht1 : t = t1 → e1 = e := fun z => tn_0 (by omega)
      have hkV : V k = false := by
        apply Classical.byContradiction
        intro z
        obtain ⟨-, e', s', t', he', hw, hs, ht', hee⟩ := hc k hk (by revert z; cases V k <;> simp)
        have b := h.2 e' s' t' he' hw
        have := tn_le e' p
        have q1 : t' = t1 := by omega
        have q2 : t = t1 := by omega
        have q3 : e' = e := (hee q1).trans (ht1 q2)
        subst q3
        omega
      refine ⟨adB V k, ?_, fun c hc' hV' => ?_⟩
      · have := cnt_one (p := V) (q := adB V k) (u := k) 1024 hk hkV (by unfold adB; rw [decide_eq_true rfl]; rfl) (fun i _ z => by unfold adB; rw [decide_eq_false z]; rfl)
        omega
      · by_cases ck : c = k
        · subst ck
          exact ⟨hkg, e, s + 1, t, he, h.1, Nat.le_refl _, Nat.le_refl _, fun _ => rfl⟩
        · have hVc : V c = true := by
            unfold adB at hV'
            rw [decide_eq_false ck] at hV'
            exact hV'
          obtain ⟨g1, e', s', t', he', hw, hs, ht', hee⟩ := hc c hc' hVc
          exact ⟨g1, e', s', t', he', hw, by omega, by omega, fun z => (hee (by omega)).trans (ht1 (by omega))⟩
theorem lx_bd {S : Nat → Bool} {g k q t s : Nat} (hk : k < 1024) (hq : q < 4) (hg : g < 1024) (h : lx S g k q t s) : 0 < s ∧ s ≤ 1024 ∧ t < 1024 := by
  have h0 := wy_t s t k q h.1
  cases s with
  | zero => omega
  | succ s =>
    obtain ⟨ok, ⟨h1, h2, h3⟩ | ⟨hne, -⟩⟩ := wy_s.mp h.1
    · omega
    · obtain ⟨n1, -, -⟩ := nk_lt hk hq ok.2.1
      obtain ⟨e1, t1, he1, hl, ht⟩ := la_nx h hne
      obtain ⟨V, hV, hc⟩ := la_vs s t1 (nk k q) q e1 n1 hne he1 hl
      have hVg : V g = false := by
        apply Classical.byContradiction
        intro z
        exact (hc g hg (by revert z; cases V g <;> simp)).1 rfl
      have := cnt_lt (p := V) (u := g) 1024 hg hVg
      omega
/-- more turns: then some state has one less -/
theorem lx_dn {S : Nat → Bool} {g T : Nat} : ∀ s k q, k < 1024 → q < 4 → lx S g k q (T + 1) s → ∃ k' q' s', k' < 1024 ∧ q' < 4 ∧ lx S g k' q' T s' := by
  intro s
  induction s with
  | zero => intro k q _ _ h; exact h.1.elim
  | succ s ih =>
    intro k q hk hq h
    obtain ⟨ok, ⟨-, -, h3⟩ | ⟨hne, e, t', he, hl, ht⟩⟩ := lx_nx h
    · omega
    · obtain ⟨n1, -, -⟩ := nk_lt hk hq ok.2.1
      by_cases z : e = q
      · subst z
        rw [tn_s] at ht
        have : t' = T + 1 := by omega
        subst this
        exact ih _ e n1 hq hl
      · rw [tn_o z] at ht
        have : t' = T := by omega
        subst this
        exact ⟨_, e, s, n1, he, hl⟩
theorem lx_lv {S : Nat → Bool} {g T k q s : Nat} (hk : k < 1024) (hq : q < 4) : ∀ n, lx S g k q (T + n) s → ∃ k' q' s', k' < 1024 ∧ q' < 4 ∧ lx S g k' q' T s' := by
  intro n
  induction n generalizing k q s with
  | zero => intro h; exact ⟨k, q, s, hk, hq, h⟩
  | succ n ih =>
    intro h
    obtain ⟨k', q', s', hk', hq', hl⟩ := lx_dn (T := T + n) s k q hk hq h
    exact ih hk' hq' hl
