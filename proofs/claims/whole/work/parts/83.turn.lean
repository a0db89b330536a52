/-! all ways of so many turns (class) -/
def ixK (q k : Nat) : Nat := if q < 2 then 1023 - k else k
def dnK (q i q' k : Nat) : Prop := q' < q ∨ (q' = q ∧ ixK q k < i)
theorem ixK_i {q i : Nat} (hi : i < 1024) : ixK q i < 1024 ∧ ixK q (ixK q i) = i := by
  unfold ixK; split <;> omega
theorem ixK_nk {q k : Nat} (hq : q < 4) (hk : k < 1024) (hr : 0 < rm4 q (k % 32) (k / 32)) : ixK q (nk k q) < ixK q k := by
  unfold ixK nk fwX fwY
  unfold rm4 at hr
  by_cases h0 : q = 0
  · subst h0; simp at hr ⊢; omega
  · by_cases h1 : q = 1
    · subst h1; simp at hr ⊢; omega
    · by_cases h2 : q = 2
      · subst h2; simp at hr ⊢; omega
      · have : q = 3 := by omega
        subst this; simp at hr ⊢; omega
theorem enT.cg {h h' : mH} {S : Nat → Bool} {g q k L : Nat} (e : mI h' 39 (1024 * q + k) = mI h 39 (1024 * q + k)) (en : enT h S g q k L) : enT h' S g q k L := by
  unfold enT; rw [e]; exact en
theorem enT.up {h : mH} {S : Nat → Bool} {g q k T : Nat} (ne : ¬ mI h 39 (1024 * q + k) = 0) (en : enT h S g q k T) : enT h S g q k (T + 1) ∧ ∀ s, ¬ lx S g k q T s := by
  rcases en with ⟨z, -⟩ | ⟨t, s, ht, hl, e⟩
  · exact (ne z).elim
  · refine ⟨Or.inr ⟨t, s, by omega, hl, e⟩, fun s' hl' => ?_⟩
    have := lx_one hl hl'
    omega
theorem enT.z {h : mH} {S : Nat → Bool} {g q k T : Nat} (hk : k < 1024) (hq : q < 4) (hg : g < 1024) (e0 : mI h 39 (1024 * q + k) = 0) (en : enT h S g q k T) : ∀ s t, wy S g s t k q → T ≤ t := by
  rcases en with ⟨-, z⟩ | ⟨t, s, ht, hl, e⟩
  · exact z
  · obtain ⟨b1, b2, b3⟩ := lx_bd hk hq hg hl
    rw [e] at e0
    have := nI_bk (b := 0) (by omega) (by omega) e0
    omega
def tbA (h : mH) (S : Nat → Bool) (g T : Nat) : Prop := ∀ q k, q < 4 → k < 1024 → enT h S g q k T
def tbD (h : mH) (S : Nat → Bool) (g T q i : Nat) : Prop := ∀ q' k, q' < 4 → k < 1024 → (dnK q i q' k → enT h S g q' k (T + 1)) ∧ (¬ dnK q i q' k → enT h S g q' k T)
def nwD (S : Nat → Bool) (g T q i : Nat) (v : Int32) : Prop := (v = 0 ∧ ∀ q' k s, q' < 4 → k < 1024 → dnK q i q' k → ¬ lx S g k q' T s) ∨ v = 1
theorem dnK_s {q i q' k : Nat} (hk : k < 1024) (hi : i < 1024) : dnK q (i + 1) q' k ↔ (dnK q i q' k ∨ (q' = q ∧ k = ixK q i)) := by
  unfold dnK ixK
  by_cases h : q < 2
  · rw [if_pos h, if_pos h]; omega
  · rw [if_neg h, if_neg h]; omega
theorem dnK_e {q q' k : Nat} (hk : k < 1024) : dnK q 1024 q' k ↔ dnK (q + 1) 0 q' k := by
  unfold dnK ixK
  by_cases h : q < 2
  · rw [if_pos h]; omega
  · rw [if_neg h]; omega
/-- one more cell is done -/
theorem tbD.nx {h h' : mH} {S : Nat → Bool} {g T q i : Nat} (hi : i < 1024) (td : tbD h S g T q i) (ot : ∀ j, j ≠ 1024 * q + ixK q i → mI h' 39 j = mI h 39 j) (en : enT h' S g q (ixK q i) (T + 1)) : tbD h' S g T q (i + 1) := by
  intro q' k hq' hk
  by_cases z : q' = q ∧ k = ixK q i
  · obtain ⟨z1, z2⟩ := z
    subst z1; subst z2
    exact ⟨fun _ => en, fun u => (u ((dnK_s hk hi).mpr (Or.inr ⟨rfl, rfl⟩))).elim⟩
  · have e := ot (1024 * q' + k) (fun u => z (by have := (ixK_i (q := q) hi).1; omega))
    obtain ⟨t1, t2⟩ := td q' k hq' hk
    refine ⟨fun u => ?_, fun u => ?_⟩
    · rcases (dnK_s hk hi).mp u with u | u
      · exact (t1 u).cg e
      · exact (z u).elim
    · exact (t2 (fun v => u ((dnK_s hk hi).mpr (Or.inl v)))).cg e
theorem nwD.nx {S : Nat → Bool} {g T q i : Nat} {v : Int32} (hi : i < 1024) (n : nwD S g T q i v) (no : ∀ s, ¬ lx S g (ixK q i) q T s) : nwD S g T q (i + 1) v := by
  rcases n with ⟨v0, n⟩ | v1
  · refine Or.inl ⟨v0, fun q' k s hq' hk u => ?_⟩
    rcases (dnK_s hk hi).mp u with u | ⟨u1, u2⟩
    · exact n q' k s hq' hk u
    · rw [u1, u2]; exact no s
  · exact Or.inr v1
section
variable {G : mG} {d : Nat} {b : Nat × Nat} {h : mH} {Q : Option mV → mH → Prop}
set_option maxHeartbeats 1000000 in
theorem c10_addTurn {S : Nat → Bool} {g T : Nat} (hS : mSk h) (hg : g < 1024) (hT : T < 1024) (eg : mI h 38 6 = nI g) (hs : ∀ k, k < 1024 → bt (mI h 36 (k / 32)) (k % 32) = S k) (tb : tbA h S g T)
    (K : ∀ h' v, mFr2 (fun a _ => a = 39) h h' → tbA h' S g (T + 1) → ((v = 0 ∧ ∀ q k s, q < 4 → k < 1024 → ¬ lx S g k q T s) ∨ v = 1) → Q (some (.inl v)) h') : mC G kX10_addTurn (d + 2) b [.inr (some 38), .inr (some 36), .inl (nI T)] h Q := by
  refine qX10_addTurn 36 _ (skT_36 hS) hS ?_
  have outer : ∀ (r q : Nat) (h1 : mH) (v : Int32), q + r = 4 → mFr2 (fun a _ => a = 39) h h1 → tbD h1 S g T q 0 → nwD S g T q 0 v →
      mW G kX10_addTurn (d + 2) b 5 [some (.inr (some 38)), some (.inr (some 36)), some (.inl (nI T)), some (.inl v), some (.inl (nI q)), none, none, none] [] h1 Q := by
    intro r
    induction r with
    | zero =>
      intro q h1 v hq f1 td nw
      have : q = 4 := by omega
      subst this
      have hS1 := f1.1.sk hS
      refine qX10_addTurn_5 36 _ _ _ (skT_36 hS1) hS1 ⟨fun _ => ⟨?_, K h1 v f1 (fun q k hq hk => (td q k hq hk).1 (Or.inl hq)) ?_⟩, fun z => absurd (nI_le (a := 4) (by omega) (by omega)) z⟩
      · rcases nw with ⟨v0, -⟩ | v1
        · exact Or.inl v0
        · exact Or.inr v1
      · rcases nw with ⟨v0, n⟩ | v1
        · exact Or.inl ⟨v0, fun q k s hq hk => n q k s hq hk (Or.inl hq)⟩
        · exact Or.inr v1
    | succ r ihO =>
      intro q h1 v hqr f1 td nw
      have hq : q < 4 := by omega
      have hS1 := f1.1.sk hS
      refine qX10_addTurn_5 36 _ _ _ (skT_36 hS1) hS1 ⟨fun z => absurd z (nI_ge (b := 4) hq (by omega)), fun _ => ?_⟩
      have inner : ∀ (r i : Nat) (h2 : mH) (v : Int32), i + r = 1024 → mFr2 (fun a _ => a = 39) h h2 → tbD h2 S g T q i → nwD S g T q i v →
          mW G kX10_addTurn (d + 2) b 14 [some (.inr (some 38)), some (.inr (some 36)), some (.inl (nI T)), some (.inl v), some (.inl (nI q)), some (.inl (nI i)), none, none] [] h2 Q := by
        intro r
        induction r with
        | zero =>
          intro i h2 v hi f2 td nw
          have : i = 1024 := by omega
          subst this
          have hS2 := f2.1.sk hS
          refine qX10_addTurn_14 36 _ _ _ _ (skT_36 hS2) hS2 ⟨fun _ => ?_, fun z => absurd (nI_le (a := 1024) (by omega) (by omega)) z⟩
          rw [nI_1]
          refine ihO (q + 1) h2 v (by omega) f2 (fun q' k hq' hk => ?_) ?_
          · rw [← dnK_e hk]; exact td q' k hq' hk
          · rcases nw with ⟨v0, n⟩ | v1
            · exact Or.inl ⟨v0, fun q' k s hq' hk u => n q' k s hq' hk ((dnK_e hk).mpr u)⟩
            · exact Or.inr v1
        | succ r ih =>
          intro i h2 v hi f2 td nw
          have hi2 : i < 1024 := by omega
          have hS2 := f2.1.sk hS
          obtain ⟨k, ek⟩ : ∃ k, k = ixK q i := ⟨_, rfl⟩
          obtain ⟨k1, k2⟩ := ixK_i (q := q) hi2
          rw [← ek] at k1 k2
          refine qX10_addTurn_14 36 _ _ _ _ (skT_36 hS2) hS2 ⟨fun z => absurd z (nI_ge (b := 1024) hi2 (by omega)), fun _ w1 e1 => ?_⟩
          have ew : w1 = nI k := by
            rw [e1, ek]
            unfold ixK
            by_cases z : q < 2
            · rw [if_neg (show ¬ (2 : Int32) ≤ nI q from nI_ge (b := 2) z (by omega)), if_pos z, show (1023 : Int32) = nI 1023 from rfl, pk_sub (by omega)]
            · rw [if_pos (show (2 : Int32) ≤ nI q from nI_le (a := 2) (by omega) (by omega)), if_neg z]
          have ea : nI q * 1024 + nI k = nI (1024 * q + k) := by
            rw [show (1024 : Int32) = nI 1024 from rfl, pk_mul, nI_add, Nat.mul_comm]
          have vi := vp_in_nI (n := 1024 * q + k) (N := 4096) (by omega) (by omega)
          rw [ew, ea, nI_1, nI_clamp (show 1024 * q + k < 2 ^ 31 by omega)]
          have nd : ¬ dnK q i q k := fun u => by
            rcases u with u | ⟨-, u⟩
            · omega
            · rw [k2] at u; omega
          have en := (td q k hq k1).2 nd
          refine ⟨vi, fun ne => ?_, fun e0 => ?_⟩
          · obtain ⟨u1, u2⟩ := en.up ne
            exact ih (i + 1) h2 v (by omega) f2 (td.nx hi2 (fun _ _ => rfl) (by rw [← ek]; exact u1)) (nw.nx hi2 (by rw [← ek]; exact u2))
          · have no := en.z k1 hq hg e0
            refine c10_stepsFrom (S := S) (g := g) (q := q) (k := k) (T := T) hS2 hg hq k1 hT (by rw [f2.2 _ _ (by omega)]; exact eg) (fun k hk => by rw [f2.2 _ _ (by omega)]; exact hs k hk) no (fun ok e he => ?_) (fun f hf sp => ⟨_, rfl, hS2, skT_36 hS2, fun z => ?_, fun z => ⟨vi, fun h6 e6 => ?_⟩⟩)
            · obtain ⟨n1, -, -⟩ := nk_lt k1 hq ok.2.1
              obtain ⟨t1, t2⟩ := td e (nk k q) he n1
              by_cases z : e = q
              · subst z
                refine ⟨T + 1, by omega, t1 (Or.inr ⟨rfl, ?_⟩)⟩
                have := ixK_nk he k1 ok.2.1
                omega
              · rw [tn_o z]
                by_cases u : dnK q i e (nk k q)
                · exact ⟨T + 1, by omega, t1 u⟩
                · exact ⟨T, by omega, t2 u⟩
            · have f0 : f = 0 := by
                rw [show (0 : Int32) = nI 0 from rfl, nI_leI (by omega) (by omega)] at z
                omega
              rcases sp with ⟨-, no2⟩ | ⟨u, -⟩
              · refine ih (i + 1) h2 v (by omega) f2 (td.nx hi2 (fun _ _ => rfl) (by rw [← ek]; exact Or.inl ⟨e0, no2⟩)) (nw.nx hi2 (fun s hl => ?_))
                rw [← ek] at hl
                have := no2 s T hl.1
                omega
              · omega
            · have f0 : 0 < f := by
                rw [show (0 : Int32) = nI 0 from rfl, nI_leI (by omega) (by omega)] at z
                omega
              rcases sp with ⟨u, -⟩ | ⟨-, hl⟩
              · omega
              · have ev : nI T * 2048 + nI f = nI (2048 * T + f) := by
                  rw [show (2048 : Int32) = nI 2048 from rfl, pk_mul, nI_add, Nat.mul_comm]
                rw [ev] at e6
                subst e6
                refine ih (i + 1) _ 1 (by omega) (f2.tr (mFr2.SI rfl)) (td.nx hi2 (fun j hj => mI_SI_k (by rw [← ek] at hj; exact hj)) ?_) (Or.inr rfl)
                rw [← ek]
                exact Or.inr ⟨T, f, by omega, hl, mI_SI_s⟩
      exact inner 1024 0 h1 v (by omega) f1 td nw
  exact outer 4 0 h 0 (by omega) mFr2.rf (fun q k hq hk => ⟨fun u => by rcases u with u | ⟨-, u⟩ <;> omega, fun _ => tb q k hq hk⟩) (Or.inl ⟨rfl, fun q k s hq hk u => by rcases u with u | ⟨-, u⟩ <;> omega⟩)
end
