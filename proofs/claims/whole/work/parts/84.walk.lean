/-! the walk (class) -/
theorem enT.val {h : mH} {S : Nat → Bool} {g q k L : Nat} (hg : g < 1024) (hq : q < 4) (hk : k < 1024) (en : enT h S g q k L) : ∃ n, mI h 39 (1024 * q + k) = nI n ∧ n < 4194304 ∧ (∀ t s, t < L → 0 < s → s ≤ 1024 → (n = 2048 * t + s ↔ lx S g k q t s)) ∧ (n ≠ 0 → ∃ t s, t < L ∧ lx S g k q t s ∧ n = 2048 * t + s) := by
  rcases en with ⟨e, no⟩ | ⟨t, s, ht, hl, e⟩
  · refine ⟨0, e, by omega, fun t s ht h0 _ => ⟨fun z => by omega, fun z => ?_⟩, fun z => (z rfl).elim⟩
    have := no s t z.1
    omega
  · obtain ⟨b1, b2, b3⟩ := lx_bd hk hq hg hl
    refine ⟨2048 * t + s, e, by omega, fun t' s' ht' h0 h1 => ⟨fun z => ?_, fun z => ?_⟩, fun _ => ⟨t, s, ht, hl, rfl⟩⟩
    · have e1 : t' = t := by omega
      have e2 : s' = s := by omega
      rw [e1, e2]; exact hl
    · have := lx_one hl z
      rw [this.1, this.2]
/-- the lowest direction of the best ways from a cell -/
def fsP (S : Nat → Bool) (g a q t s : Nat) : Prop := q < 4 ∧ lx S g a q t s ∧ ∀ e t' s', e < 4 → lx S g a e t' s' → t < t' ∨ (t = t' ∧ (s < s' ∨ (s = s' ∧ q ≤ e)))
theorem fsP_one {S : Nat → Bool} {g a q t s q' t' s' : Nat} (h1 : fsP S g a q t s) (h2 : fsP S g a q' t' s') : q = q' ∧ t = t' ∧ s = s' := by
  have a1 := h1.2.2 q' t' s' h2.1 h2.2.1
  have a2 := h2.2.2 q t s h1.1 h1.2.1
  omega
/-- the state after n steps -/
def wkP (S : Nat → Bool) (g a q0 t0 s0 : Nat) : Nat → Nat → Nat → Nat → Nat → Prop
  | 0, k, q, t, s => k = a ∧ q = q0 ∧ t = t0 ∧ s = s0
  | n + 1, k, q, t, s => ∃ k1 q1 t1, wkP S g a q0 t0 s0 n k1 q1 t1 (s + 1) ∧ k = nk k1 q1 ∧ q < 4 ∧ lx S g k q t s ∧ t + tn q q1 = t1 ∧ ∀ e t', e < q → lx S g k e t' s → t' + tn e q1 = t1 → False
theorem wkP_one {S : Nat → Bool} {g a q0 t0 s0 : Nat} : ∀ n k q t s k' q' t' s', wkP S g a q0 t0 s0 n k q t s → wkP S g a q0 t0 s0 n k' q' t' s' → k = k' ∧ q = q' ∧ t = t' ∧ s = s'
  | 0, k, q, t, s, k', q', t', s', ⟨a1, a2, a3, a4⟩, ⟨b1, b2, b3, b4⟩ => by omega
  | n + 1, k, q, t, s, k', q', t', s', ⟨k1, q1, t1, u1, u2, u3, u4, u5, u6⟩, ⟨k2, q2, t2, v1, v2, v3, v4, v5, v6⟩ => by
    obtain ⟨e1, e2, e3, e4⟩ := wkP_one n _ _ _ _ _ _ _ _ u1 v1
    subst e1; subst e2; subst e3
    have es : s = s' := by omega
    subst es
    rw [← u2] at v2
    subst v2
    have eq : q = q' := by
      apply Classical.byContradiction
      intro z
      rcases Nat.lt_or_gt_of_ne z with z | z
      · exact v6 q t z u4 u5
      · exact u6 q' t' z v4 v5
    subst eq
    exact ⟨rfl, rfl, (lx_one u4 v4).1, rfl⟩
theorem wkP_lx {S : Nat → Bool} {g a q0 t0 s0 : Nat} (ha : a < 1024) (hq0 : q0 < 4) (hl : lx S g a q0 t0 s0) : ∀ n k q t s, wkP S g a q0 t0 s0 n k q t s → k < 1024 ∧ q < 4 ∧ lx S g k q t s ∧ s + n = s0 ∧ t ≤ t0
  | 0, k, q, t, s, ⟨a1, a2, a3, a4⟩ => by subst a1; subst a2; subst a3; subst a4; exact ⟨ha, hq0, hl, rfl, Nat.le_refl _⟩
  | n + 1, k, q, t, s, ⟨k1, q1, t1, u1, u2, u3, u4, u5, u6⟩ => by
    obtain ⟨e1, e2, e3, e4, e5⟩ := wkP_lx ha hq0 hl n _ _ _ _ u1
    obtain ⟨ok, -⟩ := lx_nx e3
    obtain ⟨n1, -⟩ := nk_lt e1 e2 ok.2.1
    exact ⟨by rw [u2]; exact n1, u3, u4, by omega, by omega⟩
theorem iI_m1 (n : Nat) : iI ((n : Int) - 1) + -1 = iI ((n : Int) - 1 - 1) := by
  rw [show (-1 : Int32) = iI (-1) from rfl, ii_add]; rfl
theorem nk_cell {k q : Nat} (hq : q < 4) (hk : k < 1024) (hr : 0 < rm4 q (k % 32) (k / 32)) : nI k + (iI (sY q) * 32 + iI (sX q)) = nI (nk k q) := by
  obtain ⟨-, -, -, g1, g2⟩ := rm4_fw hq (show k % 32 < 32 by omega) (show k / 32 < 32 by omega) hr
  rw [show (32 : Int32) = iI 32 from rfl, ii_mul, ii_add, ii_nat, ii_add, ii_nat]
  congr 1
  unfold nk
  omega
section
variable {G : mG} {d : Nat} {b : Nat × Nat} {h : mH} {Q : Option mV → mH → Prop}
theorem c10_bestFirst {a : Nat} {V : Nat → Nat} (hS : mSk h) (ha : a < 1024) (ea : mI h 38 5 = nI a) (hV : ∀ e, e < 4 → mI h 39 (1024 * e + a) = nI (V e) ∧ V e < 4194304)
    (K1 : (∀ e, e < 4 → V e = 0) → Q (some (.inl (-1))) h) (K2 : ∀ q, q < 4 → V q ≠ 0 → (∀ e, e < 4 → V e ≠ 0 → V q < V e ∨ (V q = V e ∧ q ≤ e)) → Q (some (.inl (nI q))) h) : mC G kX10_bestFirst d b [.inr (some 38)] h Q := by
  refine qX10_bestFirst hS ?_
  have lp : ∀ (n : Nat) (v1 : Int32), n ≤ 4 → ((v1 = -1 ∧ ∀ e, n ≤ e → e < 4 → V e = 0) ∨ ∃ q, n ≤ q ∧ q < 4 ∧ v1 = nI q ∧ V q ≠ 0 ∧ ∀ e, n ≤ e → e < 4 → V e ≠ 0 → V q < V e ∨ (V q = V e ∧ q ≤ e)) →
      mW G kX10_bestFirst d b 4 [some (.inr (some 38)), some (.inl v1), some (.inl (iI ((n : Int) - 1))), none] [] h Q := by
    intro n
    induction n with
    | zero =>
      intro v1 _ p
      refine qX10_bestFirst_4 _ _ hS ⟨fun _ => ?_, fun z => absurd (by decide) z⟩
      rcases p with ⟨e1, p⟩ | ⟨q, -, hq, e1, v0, p⟩
      · rw [e1]; exact K1 (fun e he => p e (by omega) he)
      · rw [e1]; exact K2 q hq v0 (fun e he => p e (by omega) he)
    | succ n ih =>
      intro v1 hn p
      have hn4 : n < 4 := by omega
      have en : iI (((n + 1 : Nat) : Int) - 1) = nI n := by rw [ii_nat]; congr 1; omega
      have en2 : nI n + -1 = iI ((n : Int) - 1) := by rw [ii_nat, show (-1 : Int32) = iI (-1) from rfl, ii_add]; rfl
      have ix : ∀ e, e < 4 → nI e * 1024 + nI a = nI (1024 * e + a) := fun e _ => by
        rw [show (1024 : Int32) = nI 1024 from rfl, pk_mul, nI_add, Nat.mul_comm]
      have l0 : ¬ nI n < 0 := by
        rw [Int32.lt_iff_toInt_lt, nI_toI (by omega)]
        show ¬ (n : Int) < 0
        omega
      refine qX10_bestFirst_4 _ _ hS ?_
      rw [en, ea, ix n hn4, nI_clamp (show 1024 * n + a < 2 ^ 31 by omega), (hV n hn4).1, en2]
      refine ⟨fun z => absurd z l0, fun _ => ⟨vp_in_nI (by omega) (by omega), fun z => ?_, fun z => ?_⟩⟩
      · have v0 : V n = 0 := nI_bk (b := 0) (by have := (hV n hn4).2; omega) (by omega) z
        refine ih v1 (by omega) ?_
        rcases p with ⟨e1, p⟩ | ⟨q, h1, hq, e1, v1, p⟩
        · refine Or.inl ⟨e1, fun e h1 h2 => ?_⟩
          by_cases u : e = n
          · rw [u]; exact v0
          · exact p e (by omega) h2
        · refine Or.inr ⟨q, by omega, hq, e1, v1, fun e h1 h2 h3 => ?_⟩
          by_cases u : e = n
          · rw [u] at h3; exact (h3 v0).elim
          · exact p e (by omega) h2 h3
      · have vn : V n ≠ 0 := fun u => z (by rw [u]; rfl)
        refine ⟨fun e1 => ?_, fun ne => ?_⟩
        · refine ih (nI n) (by omega) (Or.inr ⟨n, Nat.le_refl _, hn4, rfl, vn, fun e h1 h2 h3 => ?_⟩)
          rcases p with ⟨-, p⟩ | ⟨q, -, hq, e2, -⟩
          · by_cases u : e = n
            · subst u; omega
            · exact (h3 (p e (by omega) h2)).elim
          · rw [e2] at e1; exact (nI_nmb (by omega) e1).elim
        · rcases p with ⟨e1, -⟩ | ⟨q, h1, hq, e1, v1, p⟩
          · exact (ne e1).elim
          · have b1 := (hV n hn4).2
            have b2 := (hV q hq).2
            rw [e1, ix q hq, nI_clamp (show 1024 * q + a < 2 ^ 31 by omega), (hV q hq).1, nI_ltI (by omega) (by omega)]
            refine ⟨vp_in_nI (by omega) (by omega), fun lt => ih (nI q) (by omega) (Or.inr ⟨q, by omega, hq, rfl, v1, fun e h1 h2 h3 => ?_⟩), fun nl => ih (nI n) (by omega) (Or.inr ⟨n, Nat.le_refl _, hn4, rfl, vn, fun e h1 h2 h3 => ?_⟩)⟩
            · by_cases u : e = n
              · subst u; omega
              · exact p e (by omega) h2 h3
            · by_cases u : e = n
              · subst u; omega
              · have := p e (by omega) h2 h3; omega
  have := lp 4 (-1) (by omega) (Or.inl ⟨rfl, fun e h1 h2 => by omega⟩)
  exact this
theorem c10_directionOn {c p l : Nat} {V : Nat → Nat} (hS : mSk h) (hc : c < 1024) (hp : p < 4) (hl : l < 4194304) (hV : ∀ e, e < 4 → mI h 39 (1024 * e + c) = nI (V e) ∧ V e < 4194304)
    (K1 : (∀ e, e < 4 → ¬ (V e ≠ 0 ∧ V e + 2048 * tn e p = l)) → Q (some (.inl (-1))) h) (K2 : ∀ q, q < 4 → V q ≠ 0 → V q + 2048 * tn q p = l → (∀ e, e < q → ¬ (V e ≠ 0 ∧ V e + 2048 * tn e p = l)) → Q (some (.inl (nI q))) h) : mC G kX10_directionOn (d + 1) b [.inr (some 38), .inl (nI c), .inl (nI p), .inl (nI l)] h Q := by
  refine qX10_directionOn _ _ _ hS ?_
  refine mloop (W := fun e h1 => mW G kX10_directionOn (d + 1) b 3 [some (.inr (some 38)), some (.inl (nI c)), some (.inl (nI p)), some (.inl (nI l)), some (.inl (nI e)), none] [] h1 Q) (P := fun e h1 => h1 = h ∧ ∀ e', e' < e → ¬ (V e' ≠ 0 ∧ V e' + 2048 * tn e' p = l)) 4 ?_ ?_ 0 h (by omega) ⟨rfl, fun e' z => by omega⟩
  · rintro e h1 he ⟨rfl, pr⟩ ih
    obtain ⟨v1, v2⟩ := hV e he
    have ix : nI e * 1024 + nI c = nI (1024 * e + c) := by
      rw [show (1024 : Int32) = nI 1024 from rfl, pk_mul, nI_add, Nat.mul_comm]
    have next : ¬ (V e ≠ 0 ∧ V e + 2048 * tn e p = l) → mW G kX10_directionOn (d + 1) b 3 [some (.inr (some 38)), some (.inl (nI c)), some (.inl (nI p)), some (.inl (nI l)), some (.inl (nI (e + 1))), none] [] h1 Q := fun z => ih h1 ⟨rfl, fun e' h' => by
      by_cases u : e' = e
      · rw [u]; exact z
      · exact pr e' (by omega)⟩
    refine qX10_directionOn_3 _ _ _ _ hS ⟨fun z => absurd z (nI_ge (b := 4) he (by omega)), fun _ w1 e1 => ?_⟩
    have ew : w1 = iI ((l : Int) - 2048 * (tn e p : Nat)) := by
      rw [e1]
      by_cases z : e = p
      · subst z
        rw [if_neg (fun u => u rfl), tn_s, ii_nat]; congr 1
      · rw [if_pos (show ¬ nI e = nI p from fun u => z (nI_bk (by omega) (by omega) u)), tn_o z, ii_nat, show (2048 : Int32) = iI 2048 from rfl, ii_sub]; rfl
    have ht := tn_le e p
    have le0 : w1 ≤ 0 ↔ (l : Int) - 2048 * (tn e p : Nat) ≤ 0 := by
      rw [ew, show (0 : Int32) = iI 0 from rfl, ii_le ⟨by omega, by omega⟩ ⟨by omega, by omega⟩]
    have ve : nI (V e) = w1 ↔ (V e : Int) = (l : Int) - 2048 * (tn e p : Nat) := by
      rw [ew, ii_nat, ii_eq ⟨by omega, by omega⟩ ⟨by omega, by omega⟩]
    rw [ix, nI_1, nI_clamp (show 1024 * e + c < 2 ^ 31 by omega), v1, le0, ve]
    refine ⟨fun z => next (fun u => by omega), fun z => ⟨fun w => ?_, fun _ => ⟨vp_in_nI (by omega) (by omega), fun u => next (fun y => u (by omega)), fun u => K2 e he (by omega) (by omega) pr⟩⟩⟩
    exfalso
    rw [f_wi] at w
    exact w ⟨nI_le (a := 0) (by omega) (by omega), nI_le (b := 1023) (by omega) (by omega)⟩
  · rintro h1 ⟨rfl, pr⟩
    exact qX10_directionOn_3 _ _ _ _ hS ⟨fun _ => K1 pr, fun z => absurd (nI_le (a := 4) (by omega) (by omega)) z⟩
/-- what a walk tells -/
def wkR (h : mH) (S : Nat → Bool) (g a q t s : Nat) : Prop := mI h 38 3 = nI t ∧ mI h 38 4 = nI s ∧ ∀ n, n < 100 → n < s → ∃ k q' t' s', wkP S g a q t s n k q' t' s' ∧ mI h 40 n = nI q'
def aWk : Nat → Nat → Prop := fun x k => (x = 38 ∧ (k = 3 ∨ k = 4)) ∨ x = 40
set_option maxHeartbeats 1000000 in
theorem c10_walk {S : Nat → Bool} {g a L q t s : Nat} (hS : mSk h) (hg : g < 1024) (ha : a < 1024) (ea : mI h 38 5 = nI a) (tb : tbA h S g L) (fs : fsP S g a q t s) (hL : t < L)
    (K : ∀ h', mFr2 aWk h h' → wkR h' S g a q t s → Q none h') : mC G kX10_walk (d + 2) b [.inr (some 38)] h Q := by
  obtain ⟨hq, hl, hm⟩ := fs
  obtain ⟨b1, b2, b3⟩ := lx_bd ha hq hg hl
  have hv : ∀ e, ∃ n, e < 4 → (mI h 39 (1024 * e + a) = nI n ∧ n < 4194304 ∧ (∀ t s, t < L → 0 < s → s ≤ 1024 → (n = 2048 * t + s ↔ lx S g a e t s)) ∧ (n ≠ 0 → ∃ t s, t < L ∧ lx S g a e t s ∧ n = 2048 * t + s)) := fun e => by
    by_cases he : e < 4
    · obtain ⟨n, hn⟩ := (tb e a he ha).val hg he ha
      exact ⟨n, fun _ => hn⟩
    · exact ⟨0, fun z => (he z).elim⟩
  obtain ⟨V, hV⟩ := Classical.axiomOfChoice hv
  have vq : V q = 2048 * t + s := ((hV q hq).2.2.1 t s hL b1 b2).mpr hl
  refine qX10_walk hS (c10_bestFirst (V := V) hS ha ea (fun e he => ⟨(hV e he).1, (hV e he).2.1⟩) (fun z => ?_) (fun q' hq' v0 mn => ?_))
  · have := z q hq; omega
  · have eq : q' = q := by
      obtain ⟨t', s', ht', hl', v'⟩ := (hV q' hq').2.2.2 v0
      have m1 := hm q' t' s' hq' hl'
      have m2 := mn q hq (by omega)
      obtain ⟨c1, c2, c3⟩ := lx_bd ha hq' hg hl'
      omega
    subst eq
    have ix : nI q' * 1024 + nI a = nI (1024 * q' + a) := by
      rw [show (1024 : Int32) = nI 1024 from rfl, pk_mul, nI_add, Nat.mul_comm]
    refine ⟨_, rfl, hS, ?_⟩
    rw [ea, ix, nI_clamp (show 1024 * q' + a < 2 ^ 31 by omega), (hV q' hq).1, vq, (en_dv b3 b2).1, (en_dv b3 b2).2]
    refine ⟨fun _ => ⟨vp_in_nI (by omega) (by omega), fun h4 e4 h5 e5 => ?_⟩, fun z => absurd z (nI_nmb (by omega))⟩
    have f5 : mFr2 aWk h h5 := by rw [e5, e4]; exact (mFr2.SI (A := aWk) (Or.inl ⟨rfl, by omega⟩)).tr (mFr2.SI (A := aWk) (Or.inl ⟨rfl, by omega⟩))
    have i3 : mI h5 38 3 = nI t := by rw [e5, mI_SI_k (by omega), e4, mI_SI_s]
    have i4 : mI h5 38 4 = nI s := by rw [e5, mI_SI_s]
    rw [f5.2 38 5 (by unfold aWk; omega), ea]
    have lp : ∀ (r i : Nat) (h6 : mH) (v1 v2 v3 : Int32), i + r = 100 → mFr2 aWk h h6 → mI h6 38 3 = nI t → mI h6 38 4 = nI s → i ≤ s → (∀ n, n < i → ∃ k q2 t' s', wkP S g a q' t s n k q2 t' s' ∧ mI h6 40 n = nI q2) →
        (i < s → ∃ k q2 t' s', wkP S g a q' t s i k q2 t' s' ∧ v1 = nI q2 ∧ v2 = nI (2048 * t' + s') ∧ v3 = nI k) →
        mW G kX10_walk (d + 2) b 53 [some (.inr (some 38)), some (.inl v1), some (.inl v2), some (.inl v3), some (.inl (nI i))] [] h6 Q := by
      intro r
      induction r with
      | zero =>
        intro i h6 v1 v2 v3 hi f6 j3 j4 his rows st
        have : i = 100 := by omega
        subst this
        exact qX10_walk_53 _ _ _ _ (f6.1.sk hS) ⟨fun _ => K h6 f6 ⟨j3, j4, fun n hn _ => rows n hn⟩, fun z => absurd (nI_le (a := 100) (by omega) (by omega)) z⟩
      | succ r ih =>
        intro i h6 v1 v2 v3 hi f6 j3 j4 his rows st
        have hi2 : i < 100 := by omega
        have hS6 := f6.1.sk hS
        refine qX10_walk_53 _ _ _ _ hS6 ?_
        rw [j4, nI_leI (a := s) (b := i) (by omega) (by omega), nI_clamp (show i < 2 ^ 31 by omega), nI_1]
        refine ⟨fun z => absurd z (nI_ge (b := 100) hi2 (by omega)), fun _ => ⟨fun z => K h6 f6 ⟨j3, j4, fun n _ hn => rows n (by omega)⟩, fun z => ?_⟩⟩
        obtain ⟨k, q2, t', s', wk, e1, e2, e3⟩ := st (by omega)
        obtain ⟨w1, w2, w3, w4, w5⟩ := wkP_lx ha hq hl i k q2 t' s' wk
        obtain ⟨c1, c2, c3⟩ := lx_bd w1 w2 hg w3
        obtain ⟨s1, es⟩ : ∃ s1, s' = s1 + 1 := ⟨s' - 1, by omega⟩
        subst es
        obtain ⟨ok, nx⟩ := lx_nx w3
        obtain ⟨n1, -⟩ := nk_lt w1 w2 ok.2.1
        rw [e1, e2, e3, nI_clamp (show q2 < 2 ^ 31 by omega), (st_of q2 w2).1, (st_of q2 w2).2, nk_cell w2 w1 ok.2.1]
        have el : nI (2048 * t' + (s1 + 1)) + -1 = nI (2048 * t' + s1) := by
          rw [ii_nat, show (-1 : Int32) = iI (-1) from rfl, ii_add, ii_nat]; congr 1; omega
        rw [el]
        refine ⟨fun z => absurd z (nI_nmb (by omega)), fun _ => ⟨vp_in_nI hi2 (by omega), fun h2 eh2 => ⟨vp_in_nI w2 (by omega), vp_in_nI w2 (by omega), ?_⟩⟩⟩
        have f2 : mFr2 aWk h h2 := f6.tr (by rw [eh2]; exact mFr2.SI (A := aWk) (Or.inr rfl))
        have hS2 := f2.1.sk hS
        have o3 : mI h2 38 3 = nI t := by rw [eh2, mI_SI_a (by omega)]; exact j3
        have o4 : mI h2 38 4 = nI s := by rw [eh2, mI_SI_a (by omega)]; exact j4
        have rows2 : ∀ n, n < i + 1 → ∃ k q2 t' s', wkP S g a q' t s n k q2 t' s' ∧ mI h2 40 n = nI q2 := fun n hn => by
          by_cases u : n = i
          · rw [u]; exact ⟨k, q2, t', s1 + 1, wk, by rw [eh2, mI_SI_s]⟩
          · obtain ⟨k', q3, t3, s3, u1, u2⟩ := rows n (by omega)
            exact ⟨k', q3, t3, s3, u1, by rw [eh2, mI_SI_k u]; exact u2⟩
        have hu : ∀ e, ∃ n, e < 4 → (mI h2 39 (1024 * e + nk k q2) = nI n ∧ n < 4194304 ∧ (∀ t s, t < L → 0 < s → s ≤ 1024 → (n = 2048 * t + s ↔ lx S g (nk k q2) e t s)) ∧ (n ≠ 0 → ∃ t s, t < L ∧ lx S g (nk k q2) e t s ∧ n = 2048 * t + s)) := fun e => by
          by_cases he : e < 4
          · obtain ⟨n, hn⟩ := (tb e (nk k q2) he n1).val hg he n1
            refine ⟨n, fun _ => ⟨?_, hn.2⟩⟩
            rw [f2.2 _ _ (by unfold aWk; omega)]; exact hn.1
          · exact ⟨0, fun z => (he z).elim⟩
        obtain ⟨U, hU⟩ := Classical.axiomOfChoice hu
        -- an entry that fits is a best way on
        have fit : ∀ e, e < 4 → U e ≠ 0 → U e + 2048 * tn e q2 = 2048 * t' + s1 → 0 < s1 ∧ ∃ t2, lx S g (nk k q2) e t2 s1 ∧ t2 + tn e q2 = t' ∧ U e = 2048 * t2 + s1 := by
          intro e he u0 ue
          obtain ⟨t2, s2, h1, h2, h3⟩ := (hU e he).2.2.2 u0
          obtain ⟨d1, d2, d3⟩ := lx_bd n1 he hg h2
          have ht := tn_le e q2
          have es : s2 = s1 := by omega
          subst es
          exact ⟨by omega, t2, h2, by omega, h3⟩
        have tif : ∀ e t2, e < 4 → 0 < s1 → lx S g (nk k q2) e t2 s1 → t2 + tn e q2 = t' → U e ≠ 0 ∧ U e + 2048 * tn e q2 = 2048 * t' + s1 := by
          intro e t2 he h0 h1 h2
          have := ((hU e he).2.2.1 t2 s1 (by omega) h0 (by omega)).mpr h1
          omega
        refine c10_directionOn (V := U) hS2 n1 w2 (by omega) (fun e he => ⟨(hU e he).1, (hU e he).2.1⟩) (fun no => ⟨_, rfl, hS2, fun _ => ?_, fun z => absurd rfl z⟩) (fun q3 hq3 u0 ue lo => ⟨_, rfl, hS2, fun z => absurd z (nI_nmb (by omega)), fun _ => ⟨vp_in_nI hi2 (by omega), ?_⟩⟩)
        · refine ih (i + 1) h2 _ _ _ (by omega) f2 o3 o4 (by omega) rows2 (fun lt => ?_)
          exfalso
          rcases nx with ⟨-, u, -⟩ | ⟨-, e, t2, he, hl2, et⟩
          · omega
          · exact no e he (tif e t2 he (by omega) hl2 et.symm)
        · obtain ⟨h0, t2, l2, et, uv⟩ := fit q3 hq3 u0 ue
          have wk2 : wkP S g a q' t s (i + 1) (nk k q2) q3 t2 s1 := ⟨k, q2, t', wk, rfl, hq3, l2, et, fun e t3 he hl3 et3 => lo e he (tif e t3 (by omega) h0 hl3 et3)⟩
          have e40 : mI h2 40 i = nI q2 := by rw [eh2, mI_SI_s]
          rw [e40]
          refine ⟨fun z => ?_, fun z => ?_⟩
          · have := nI_bk (by omega) (by omega) z
            subst this
            rw [tn_s] at et
            refine ih (i + 1) h2 _ _ _ (by omega) f2 o3 o4 (by omega) rows2 (fun lt => ⟨_, _, t2, s1, wk2, rfl, ?_, rfl⟩)
            rw [show t' = t2 by omega]
          · have ne : q3 ≠ q2 := fun u => z (by rw [u])
            rw [tn_o ne] at et
            refine ih (i + 1) h2 _ _ _ (by omega) f2 o3 o4 (by omega) rows2 (fun lt => ⟨_, _, t2, s1, wk2, rfl, ?_, rfl⟩)
            rw [ii_nat, show (-2048 : Int32) = iI (-2048) from rfl, ii_add, ii_nat]; congr 1; omega
    exact lp 100 0 h5 _ _ _ (by omega) f5 i3 i4 (by omega) (fun n z => by omega) (fun _ => ⟨a, q', t, s, ⟨rfl, rfl, rfl, rfl⟩, rfl, rfl, rfl⟩)
end
