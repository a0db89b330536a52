/-! a step of a way (class) -/
def enT (h : mH) (S : Nat → Bool) (g q k L : Nat) : Prop := (mI h 39 (1024 * q + k) = 0 ∧ ∀ s t, wy S g s t k q → L ≤ t) ∨ ∃ t s, t < L ∧ lx S g k q t s ∧ mI h 39 (1024 * q + k) = nI (2048 * t + s)
/-- the best among the first e directions, with tau turns in all -/
def fwP (S : Nat → Bool) (g a q T e f : Nat) : Prop := (∀ e' t' s, e' < e → lx S g a e' t' s → t' + tn e' q = T → 0 < f ∧ f ≤ s + 1) ∧ (0 < f → ∃ e' t', e' < e ∧ lx S g a e' t' (f - 1) ∧ t' + tn e' q = T)
theorem stp {S : Nat → Bool} {g k q T f : Nat} (ok : okS S k q) (hne : nk k q ≠ g) (no : ∀ s t, wy S g s t k q → T ≤ t) (hp : fwP S g (nk k q) q T 4 f) : (f = 0 ∧ ∀ s t, wy S g s t k q → T + 1 ≤ t) ∨ (0 < f ∧ lx S g k q T f) := by
  obtain ⟨p1, p2⟩ := hp
  have key : ∀ s, wy S g s T k q → 0 < f ∧ f ≤ s := by
    intro s hw
    cases s with
    | zero => exact hw.elim
    | succ s =>
      obtain ⟨-, ⟨h1, -⟩ | ⟨-, e, t', he, h2, h3⟩⟩ := wy_s.mp hw
      · exact (hne h1).elim
      · obtain ⟨t2, s2, hl⟩ := lx_ex h2
        have b := hl.2 s t' h2
        have n := no (s2 + 1) (t2 + tn e q) (wy_s.mpr ⟨ok, Or.inr ⟨hne, e, t2, he, hl.1, rfl⟩⟩)
        have := p1 e t2 s2 he hl (by omega)
        omega
  by_cases f0 : f = 0
  · refine Or.inl ⟨f0, fun s t hw => ?_⟩
    have := no s t hw
    by_cases e : t = T
    · subst e; have := key s hw; omega
    · omega
  · obtain ⟨e', t', he', hl, ht⟩ := p2 (by omega)
    refine Or.inr ⟨by omega, ?_, fun s2 t2 hw => ?_⟩
    · have := wy_s.mpr ⟨ok, Or.inr ⟨hne, e', t', he', hl.1, ht.symm⟩⟩
      rw [show f - 1 + 1 = f by omega] at this
      exact this
    · have := no s2 t2 hw
      by_cases e : t2 = T
      · subst e; exact Or.inr ⟨rfl, (key s2 hw).2⟩
      · exact Or.inl (by omega)
theorem stp_no {S : Nat → Bool} {g k q T : Nat} (nk' : ¬ okS S k q) : ∀ s t, wy S g s t k q → T ≤ t := by
  intro s t hw
  cases s with
  | zero => exact hw.elim
  | succ s => exact (nk' (wy_s.mp hw).1).elim
theorem stp_g {S : Nat → Bool} {g k q T : Nat} (ok : okS S k q) (hg : nk k q = g) (no : ∀ s t, wy S g s t k q → T ≤ t) : T = 0 ∧ lx S g k q 0 1 := by
  have hw : wy S g 1 0 k q := wy_s.mpr ⟨ok, Or.inl ⟨hg, rfl, rfl⟩⟩
  have := no 1 0 hw
  refine ⟨by omega, hw, fun s' t' h' => ?_⟩
  have := wy_t s' t' k q h'
  omega
theorem nI_bk {a b : Nat} (ha : a < 2 ^ 31) (hb : b < 2 ^ 31) (h : nI a = nI b) : a = b := (nI_eq ha hb).mp h
theorem st_of : ∀ q, q < 4 → mStX q = iI (sX q) ∧ mStY q = iI (sY q) := by decide +kernel
theorem shr5 {k : Nat} (hk : k < 1024) : m_shr (nI k) 5 = nI (k / 32) := by
  unfold m_shr
  rw [pk_shrN (by omega) _ 5 (by decide)]
theorem and31b {k : Nat} (hk : k < 1024) : (nI k &&& 31) = nI (k % 32) := pk_andN (n := k) (by omega) (m := 31) 5 (by decide)
/-- one cell on: in the grid or not -/
theorem st_in {q x y : Nat} (hq : q < 4) (hx : x < 32) (hy : y < 32) : (f_X11_inGrid (nI x + iI (sX q)) (nI y + iI (sY q)) = 0 ↔ rm4 q x y = 0) ∧ (0 < rm4 q x y → nI x + iI (sX q) = nI (fwX q x) ∧ nI y + iI (sY q) = nI (fwY q y)) := by
  have sx : -1 ≤ sX q ∧ sX q ≤ 1 := by
    unfold sX; repeat' split
    all_goals omega
  have sy : -1 ≤ sY q ∧ sY q ≤ 1 := by
    unfold sY; repeat' split
    all_goals omega
  have e1 : nI x + iI (sX q) = iI ((x : Int) + sX q) := by rw [ii_nat, ii_add]
  have e2 : nI y + iI (sY q) = iI ((y : Int) + sY q) := by rw [ii_nat, ii_add]
  refine ⟨?_, fun hr => ?_⟩
  · rw [e1, e2, f_grid, ii_toInt ⟨by omega, by omega⟩, ii_toInt ⟨by omega, by omega⟩]
    unfold rm4 sX sY
    by_cases h0 : q = 0
    · subst h0; simp; omega
    · by_cases h1 : q = 1
      · subst h1; simp; omega
      · by_cases h2 : q = 2
        · subst h2; simp; omega
        · have : q = 3 := by omega
          subst this; simp; omega
  · obtain ⟨-, -, -, g1, g2⟩ := rm4_fw hq hx hy hr
    rw [e1, e2, ← g1, ← g2, ← ii_nat, ← ii_nat]
    exact ⟨rfl, rfl⟩
theorem en_dv {t s : Nat} (ht : t < 1024) (hs : s ≤ 1024) : nI (2048 * t + s) / 2048 = nI t ∧ m_rem (nI (2048 * t + s)) 2048 = nI s := by
  rw [show (2048 : Int32) = nI 2048 from rfl, ii_div (by omega) (by omega) (by omega), ii_rem (by omega) (by omega) (by omega), show (2048 * t + s) / 2048 = t by omega, show (2048 * t + s) % 2048 = s by omega]
  exact ⟨rfl, rfl⟩
section
variable {G : mG} {d : Nat} {b : Nat × Nat} {h : mH} {Q : Option mV → mH → Prop}
set_option maxHeartbeats 1000000 in
theorem c10_stepsFrom {S : Nat → Bool} {g q k T : Nat} (hS : mSk h) (hg : g < 1024) (hq : q < 4) (hk : k < 1024) (hT : T < 1024) (eg : mI h 38 6 = nI g) (hs : ∀ k, k < 1024 → bt (mI h 36 (k / 32)) (k % 32) = S k)
    (no : ∀ s t, wy S g s t k q → T ≤ t) (en : okS S k q → ∀ e, e < 4 → ∃ L, T + 1 ≤ L + tn e q ∧ enT h S g e (nk k q) L)
    (K : ∀ f, f ≤ 1024 → ((f = 0 ∧ ∀ s t, wy S g s t k q → T + 1 ≤ t) ∨ (0 < f ∧ lx S g k q T f)) → Q (some (.inl (nI f))) h) : mC G kX10_stepsFrom (d + 1) b [.inr (some 38), .inr (some 36), .inl (nI q), .inl (nI k), .inl (nI T)] h Q := by
  have vq := vp_in_nI (n := q) (N := 4) hq (by omega)
  have cq := nI_clamp (n := q) (by omega)
  have hx : k % 32 < 32 := by omega
  have hy : k / 32 < 32 := by omega
  have K0 : (¬ okS S k q) → Q (some (.inl 0)) h := fun z => K 0 (by omega) (Or.inl ⟨rfl, stp_no z⟩)
  obtain ⟨i1, i2⟩ := st_in hq hx hy
  have l36 := skL_36 hS
  refine qX10_stepsFrom 36 _ _ _ (skT_36 hS) hS ?_
  rw [cq, (st_of q hq).1, (st_of q hq).2, shr5 hk, and31b hk, l36, nI_clamp (show k / 32 < 2 ^ 31 by omega), i1]
  refine ⟨vq, vq, vp_in_nI hy (by omega), fun w4 e4 => ⟨fun z => ?_, fun z => ⟨fun r0 => ?_, fun r0 => ?_⟩⟩⟩
  · refine K0 (fun ok => ?_)
    rw [e4, if_neg (fun t => t ((bt_ask _ hx).mpr (by rw [hs k hk]; exact ok.1)))] at z
    exact absurd z (by decide)
  · exact K0 (fun ok => by have := ok.2.1; omega)
  · have hr : 0 < rm4 q (k % 32) (k / 32) := by omega
    have sk : S k = true := by
      rw [← hs k hk]
      refine (bt_ask _ hx).mp (Classical.byContradiction (fun t => z ?_))
      rw [e4, if_pos t]
    obtain ⟨n1, n2, n3⟩ := nk_lt hk hq hr
    obtain ⟨g1, g2, -⟩ := rm4_fw hq hx hy hr
    rw [(i2 hr).1, (i2 hr).2, nI_clamp (show fwY q (k / 32) < 2 ^ 31 by omega)]
    have hb : bt (mI h 36 (fwY q (k / 32))) (fwX q (k % 32)) = S (nk k q) := by rw [← hs _ n1, n2, n3]
    have en1 : nI (fwY q (k / 32)) * 32 + nI (fwX q (k % 32)) = nI (nk k q) := by
      rw [show (32 : Int32) = nI 32 from rfl, pk_mul, nI_add]; unfold nk; rw [Nat.mul_comm]
    refine ⟨vp_in_nI g2 (by omega), fun o => ?_, fun o => K0 (fun ok => ?_)⟩
    · have so : S (nk k q) = true := by
        rw [bt_ask0 _ g1, hb] at o
        revert o; cases S (nk k q) <;> simp
      have ok : okS S k q := ⟨sk, hr, so⟩
      rw [en1, eg]
      refine ⟨fun ng => ?_, fun eg' => ?_⟩
      · have hne : nk k q ≠ g := fun t => ng (by rw [t])
        have lp : ∀ (r e f : Nat), e + r = 4 → f ≤ 1024 + 1 → fwP S g (nk k q) q T e f → mW G kX10_stepsFrom (d + 1) b 102 [some (.inr (some 38)), none, some (.inl (nI q)), none, some (.inl (nI T)), none, none, none, some (.inl (nI (nk k q))), some (.inl (nI f)), some (.inl (nI e)), none, none] [] h Q := by
          intro r
          induction r with
          | zero =>
            intro e f he hf p
            have : e = 4 := by omega
            subst this
            refine qX10_stepsFrom_102 _ _ _ _ _ hS ⟨fun _ => ?_, fun z => absurd (nI_le (a := 4) (by omega) (by omega)) z⟩
            have sp := stp ok hne no p
            refine K f ?_ sp
            rcases sp with ⟨f0, -⟩ | ⟨-, l⟩
            · omega
            · exact (lx_bd hk hq hg l).2.1
          | succ r ih =>
            intro e f he hf p
            have he4 : e < 4 := by omega
            have ea : nI e * 1024 + nI (nk k q) = nI (1024 * e + nk k q) := by
              rw [show (1024 : Int32) = nI 1024 from rfl, pk_mul, nI_add, Nat.mul_comm]
            refine qX10_stepsFrom_102 _ _ _ _ _ hS ?_
            rw [ea, nI_1, nI_clamp (show 1024 * e + nk k q < 2 ^ 31 by omega)]
            refine ⟨fun z => absurd z (nI_ge (b := 4) he4 (by omega)), fun _ => ⟨vp_in_nI (by omega) (by omega), ?_⟩⟩
            obtain ⟨L, hL, en2⟩ := en ok e he4
            -- nothing new by this direction
            have skip : (∀ t' s, lx S g (nk k q) e t' s → t' + tn e q ≠ T) → fwP S g (nk k q) q T (e + 1) f := by
              intro no2
              refine ⟨fun e' t' s h1 h2 h3 => ?_, fun q1 => ?_⟩
              · by_cases z : e' = e
                · subst z; exact (no2 t' s h2 h3).elim
                · exact p.1 e' t' s (by omega) h2 h3
              · obtain ⟨e', t', h1, h2⟩ := p.2 q1
                exact ⟨e', t', by omega, h2⟩
            rcases en2 with ⟨v0, w0⟩ | ⟨t, s, ht, hl, v0⟩
            · refine ⟨fun _ => ih (e + 1) f (by omega) hf (skip (fun t' s hl ht => ?_)), fun z => absurd v0 z⟩
              have := w0 s t' hl.1
              omega
            · obtain ⟨b1, b2, b3⟩ := lx_bd n1 he4 hg hl
              rw [v0, (en_dv b3 b2).1, (en_dv b3 b2).2, nI_1]
              refine ⟨fun z => absurd (nI_bk (b := 0) (by omega) (by omega) z) (by omega), fun _ w2 e2 => ?_⟩
              have hw : nI t = w2 ↔ t + tn e q = T := by
                rw [e2]
                by_cases z : e = q
                · subst z
                  rw [if_neg (fun u => u rfl), tn_s]
                  exact ⟨fun u => by have := nI_bk (by omega) (by omega) u; omega, fun u => by rw [← u]; rfl⟩
                · rw [if_pos (fun u => z (nI_bk (by omega) (by omega) u)), tn_o z]
                  by_cases T0 : T = 0
                  · subst T0
                    exact ⟨fun u => absurd u (nI_nmb (by omega)), fun u => by omega⟩
                  · rw [show (1 : Int32) = nI 1 from rfl, pk_sub (by omega)]
                    exact ⟨fun u => by have := nI_bk (by omega) (by omega) u; omega, fun u => by rw [← u]; rfl⟩
              refine ⟨fun z => ih (e + 1) f (by omega) hf (skip (fun t' s' hl' ht' => ?_)), fun z w3 e3 => ?_⟩
              · have := lx_one hl hl'
                exact z (hw.mpr (by omega))
              · have hT2 := hw.mp z
                have e3' : w3 = nI (if f = 0 then s + 1 else min f (s + 1)) := by
                  rw [e3]
                  by_cases f0 : f = 0
                  · subst f0
                    rw [if_neg (fun u => u rfl), if_pos rfl]
                  · rw [if_pos (show ¬ nI f = 0 from fun u => f0 (nI_bk (b := 0) (by omega) (by omega) u)), if_neg f0, fmin_n (by omega) (by omega)]
                rw [e3']
                refine ih (e + 1) _ (by omega) (by split <;> omega) ⟨fun e' t' s' h1 h2 h3 => ?_, fun _ => ?_⟩
                · by_cases z : e' = e
                  · subst z
                    have := lx_one hl h2
                    split <;> omega
                  · have := p.1 e' t' s' (by omega) h2 h3
                    split <;> omega
                · by_cases f0 : f = 0
                  · rw [if_pos f0]
                    exact ⟨e, t, by omega, hl, hT2⟩
                  · rw [if_neg f0]
                    by_cases m : f ≤ s + 1
                    · rw [Nat.min_eq_left m]
                      obtain ⟨e', t', h1, h2⟩ := p.2 (by omega)
                      exact ⟨e', t', by omega, h2⟩
                    · rw [Nat.min_eq_right (by omega)]
                      exact ⟨e, t, by omega, hl, hT2⟩
        exact lp 4 0 0 (by omega) (by omega) ⟨fun e' t' s h1 => by omega, fun z => by omega⟩
      · have hg' : nk k q = g := nI_bk (by omega) (by omega) eg'
        obtain ⟨T0, l⟩ := stp_g ok hg' no
        subst T0
        exact K 1 (by omega) (Or.inr ⟨by omega, l⟩)
    · rw [bt_ask0 _ g1, hb, ok.2.2] at o
      cases o
end
