/-! wayIn (model) -/
section
variable {G : mG} {d : Nat} {b : Nat × Nat} {h : mH} {Q : Option mV → mH → Prop}
theorem smN_up {F : Nat → Nat} {u n : Nat} (hlt : n < F u) (hu : u < 4096) : smN (upN F u n) 4096 < smN F 4096 := by
  refine smN_strict (u := u) 4096 (fun i _ => ?_) hu ?_
  · unfold upN
    by_cases z : i = u
    · rw [if_pos z, z]; omega
    · rw [if_neg z]; omega
  · unfold upN; rw [if_pos rfl]; exact hlt
theorem wfM.up {h : mH} {F : Nat → Nat} {u n : Nat} (hF : wfM h F) (hn : n ≤ FARn) : wfM (mSI h 89 u (nI n)) (upN F u n) := by
  intro j hj
  unfold upN
  by_cases z : j = u
  · rw [if_pos z, z, mI_SI_s]; exact ⟨rfl, hn⟩
  · rw [if_neg z, mI_SI_k z]; exact hF j hj
set_option maxHeartbeats 1000000 in
theorem m_laysWays {S : Nat → Bool} {g : Nat} (hS : mSk h) (hg : g < 1024) (hs : ∀ k, k < 1024 → mI h 88 k = b2i (S k)) (K : ∀ h' F, mFr2 (fun a _ => a = 89) h h' → wfM h' F → wfG S g F → wfX S g F → Q none h') : mC G kX12_laysWays (d + 3) b [.inr (some 47), .inl (nI g)] h Q := by
  refine qX12_laysWays _ hS ?_
  have dv : ∀ q, q < 4096 → nI q / 4 = nI (q / 4) ∧ m_rem (nI q) 4 = nI (q % 4) := fun q hq => ⟨ii_div (b := 4) (by omega) (by omega) (by omega), ii_rem (b := 4) (by omega) (by omega) (by omega)⟩
  have eqg : ∀ q, q < 4096 → (nI (q / 4) = nI g ↔ q / 4 = g) := fun q hq => nI_eq (by omega) (by omega)
  -- the sweeps
  have sweeps : ∀ (M : Nat) (h1 : mH) (F : Nat → Nat) (v : Int32), smN F 4096 < M → mFr2 (fun a _ => a = 89) h h1 → wfM h1 F → wfG S g F → ((v = 0 ∧ wfX S g F) ∨ v = 1) → mW G kX12_laysWays (d + 3) b 37 [some (.inr (some 47)), some (.inl (nI g)), some (.inl v), none, none] [] h1 Q := by
    intro M
    induction M with
    | zero => intro h1 F v z; omega
    | succ M ih =>
      intro h1 F v hM f1 hF hG st
      rcases st with ⟨v0, X⟩ | v1
      · exact qX12_laysWays_37 _ _ (f1.1.sk hS) ⟨fun _ => K h1 F f1 hF hG X, fun z => absurd v0 z⟩
      · refine qX12_laysWays_37 _ _ (f1.1.sk hS) ⟨fun z => absurd z (by rw [v1]; decide), fun _ => ?_⟩
        have inner : ∀ (r q : Nat) (h2 : mH) (F2 : Nat → Nat) (v : Int32), q + r = 4096 → mFr2 (fun a _ => a = 89) h h2 → wfM h2 F2 → wfG S g F2 → ((v = 0 ∧ F2 = F ∧ ∀ q', q' < q → ∀ e, q' / 4 ≠ g → S (q' / 4) = true → e < 4 → F q' ≤ sbN S F (q' / 4) (q' % 4) e) ∨ (v = 1 ∧ smN F2 4096 < smN F 4096)) →
            mW G kX12_laysWays (d + 3) b 45 [some (.inr (some 47)), some (.inl (nI g)), some (.inl v), some (.inl (nI q)), none] [] h2 Q := by
          intro r
          induction r with
          | zero =>
            intro q h2 F2 v hq f2 hF2 hG2 st
            have : q = 4096 := by omega
            subst this
            refine qX12_laysWays_45 _ _ _ (f2.1.sk hS) ⟨fun _ => ?_, fun z => absurd (nI_le (a := 4096) (by omega) (by omega)) z⟩
            rcases st with ⟨v0, eF, st⟩ | ⟨v1, st⟩
            · subst eF
              refine qX12_laysWays_37 _ _ (f2.1.sk hS) ⟨fun _ => K h2 F2 f2 hF2 hG2 (fun k p e hk hkg sk hp he => ?_), fun z => absurd v0 z⟩
              have := st (4 * k + p) (by omega) e (by omega) (by rw [show (4 * k + p) / 4 = k by omega]; exact sk) he
              rw [show (4 * k + p) / 4 = k by omega, show (4 * k + p) % 4 = p by omega] at this
              exact this
            · exact ih h2 F2 v (by omega) f2 hF2 hG2 (Or.inr v1)
          | succ r ihq =>
            intro q h2 F2 v hq f2 hF2 hG2 st
            have hq2 : q < 4096 := by omega
            have hS2 := f2.1.sk hS
            have vq := vp_in_nI (n := q) (N := 4096) hq2 (by omega)
            have hk : q / 4 < 1024 := by omega
            have hp : q % 4 < 4 := by omega
            have e4 : 4 * (q / 4) + q % 4 = q := by omega
            have skip : (∀ e, q / 4 ≠ g → S (q / 4) = true → e < 4 → F2 q ≤ sbN S F2 (q / 4) (q % 4) e) → mW G kX12_laysWays (d + 3) b 45 [some (.inr (some 47)), some (.inl (nI g)), some (.inl v), some (.inl (nI (q + 1))), none] [] h2 Q := by
              intro z
              refine ihq (q + 1) h2 F2 v (by omega) f2 hF2 hG2 ?_
              rcases st with ⟨v0, eF, st⟩ | st
              · subst eF
                refine Or.inl ⟨v0, rfl, fun q' hq' e c1 c2 c3 => ?_⟩
                by_cases u : q' = q
                · rw [u] at c1 c2 ⊢; exact z e c1 c2 c3
                · exact st q' (by omega) e c1 c2 c3
              · exact Or.inr st
            refine qX12_laysWays_45 _ _ _ hS2 ?_
            rw [(dv q hq2).1, (dv q hq2).2, eqg q hq2, nI_1, nI_clamp (show q < 2 ^ 31 by omega), nI_clamp (show q / 4 < 2 ^ 31 by omega), f2.2 88 _ (by omega), hs _ hk, b2i_0]
            refine ⟨fun z => absurd z (nI_ge (b := 4096) hq2 (by omega)), fun _ => ⟨fun z => skip (fun e c1 => (c1 z).elim), fun ng => ⟨vp_in_nI hk (by omega), fun z => ?_, fun z => skip (fun e _ c2 => by rw [z] at c2; cases c2)⟩⟩⟩
            have sk : S (q / 4) = true := by revert z; cases S (q / 4) <;> simp
            refine m_bestBy (S := S) (F := F2) hS2 (fun k hk => by rw [f2.2 _ _ (by omega)]; exact hs k hk) hF2 hk hp ⟨_, rfl, hS2, vq, ?_⟩
            have b1 := (mnE_le (S := S) (F := F2) (k := q / 4) (p := q % 4) 4).1
            have b2 := (hF2 q hq2).2
            have b1' := b1
            unfold FARn at b1' b2
            rw [(hF2 q hq2).1, nI_ltI (by omega) (by omega)]
            refine ⟨fun lt => ⟨vq, fun h6 e6 => ?_⟩, fun nl => skip (fun e _ _ he => ?_)⟩
            · subst e6
              have hG3 := hG2.up hk ng hp sk (by rw [e4]; exact lt)
              rw [e4] at hG3
              have dec := smN_up lt hq2
              refine ihq (q + 1) _ _ 1 (by omega) (f2.tr (mFr2.SI rfl)) (hF2.up b1) hG3 (Or.inr ⟨rfl, ?_⟩)
              rcases st with ⟨-, eF, -⟩ | ⟨-, st⟩
              · subst eF; exact dec
              · omega
            · have := (mnE_le (S := S) (F := F2) (k := q / 4) (p := q % 4) 4).2 e he
              omega
        exact inner 4096 0 h1 F 0 (by omega) f1 hF hG (Or.inl ⟨rfl, rfl, fun q' z => by omega⟩)
  -- the start
  have s0 : ∀ (r q : Nat) (h1 : mH), q + r = 4096 → mFr2 (fun a _ => a = 89) h h1 → (∀ j, j < q → mI h1 89 j = nI (if j / 4 = g then 0 else FARn)) →
      mW G kX12_laysWays (d + 3) b 2 [some (.inr (some 47)), some (.inl (nI g)), some (.inl (nI q)), none, none] [] h1 Q := by
    intro r
    induction r with
    | zero =>
      intro q h1 hq f1 c
      have : q = 4096 := by omega
      subst this
      refine qX12_laysWays_2 _ _ (f1.1.sk hS) ⟨fun _ => ?_, fun z => absurd (nI_le (a := 4096) (by omega) (by omega)) z⟩
      refine sweeps (smN (fun j => if j / 4 = g then 0 else FARn) 4096 + 1) h1 (fun j => if j / 4 = g then 0 else FARn) 1 (by omega) f1 (fun j hj => ⟨c j hj, ?_⟩) ⟨fun p hp => if_pos (by omega), fun k p hk hkg hp => ?_⟩ (Or.inr rfl)
      · show (if j / 4 = g then 0 else FARn) ≤ FARn
        split <;> omega
      · have e : (if (4 * k + p) / 4 = g then 0 else FARn) = FARn := if_neg (by omega)
        show (if (4 * k + p) / 4 = g then 0 else FARn) ≤ FARn ∧ ((if (4 * k + p) / 4 = g then 0 else FARn) < FARn → _)
        rw [e]
        exact ⟨Nat.le_refl _, fun z => by omega⟩
    | succ r ih =>
      intro q h1 hq f1 c
      have hq2 : q < 4096 := by omega
      have vq := vp_in_nI (n := q) (N := 4096) hq2 (by omega)
      refine qX12_laysWays_2 _ _ (f1.1.sk hS) ?_
      rw [(dv q hq2).1, eqg q hq2, nI_1, nI_clamp (show q < 2 ^ 31 by omega)]
      refine ⟨fun z => absurd z (nI_ge (b := 4096) hq2 (by omega)), fun _ => ⟨fun z => ⟨vq, fun h2 e2 => ?_⟩, fun z => ⟨vq, fun h2 e2 => ?_⟩⟩⟩
      · subst e2
        refine ih (q + 1) _ (by omega) (f1.tr (mFr2.SI rfl)) (fun j hj => ?_)
        by_cases u : j = q
        · rw [u, mI_SI_s, if_neg z]; rfl
        · rw [mI_SI_k u]; exact c j (by omega)
      · subst e2
        refine ih (q + 1) _ (by omega) (f1.tr (mFr2.SI rfl)) (fun j hj => ?_)
        by_cases u : j = q
        · rw [u, mI_SI_s, if_pos z]; rfl
        · rw [mI_SI_k u]; exact c j (by omega)
  exact s0 4096 0 h (by omega) mFr2.rf (fun j z => by omega)
end
