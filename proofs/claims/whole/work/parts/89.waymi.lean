/-! wayIn (model), its answer -/
def aWm : Nat → Nat → Prop := fun a k => aSr a k ∨ a = 89
theorem aWm_d : ∀ a k, dM a k → ¬ aWm a k := fun a k z1 z2 => by
  rcases z2 with z2 | z2
  · exact aSr_d a k z1 z2
  · unfold dM at z1; omega
/-- all best first steps from a -/
theorem fs_ex {S : Nat → Bool} {g a : Nat} (ex : ∃ q t s, q < 4 ∧ wy S g s t a q) : ∃ q t s, fsP S g a q t s := by
  obtain ⟨q, t, s, hq, hw⟩ := ex
  obtain ⟨t1, ⟨q1, s1, hq1, hl1⟩, m1⟩ := lea_ex (P := fun t => ∃ q s, q < 4 ∧ lx S g a q t s) (lx_ex hw).choose ⟨q, _, hq, (lx_ex hw).choose_spec.choose_spec⟩
  obtain ⟨s2, ⟨q2, hq2, hl2⟩, m2⟩ := lea_ex (P := fun s => ∃ q, q < 4 ∧ lx S g a q t1 s) s1 ⟨q1, hq1, hl1⟩
  obtain ⟨q3, ⟨hq3, hl3⟩, m3⟩ := lea_ex (P := fun q => q < 4 ∧ lx S g a q t1 s2) q2 ⟨hq2, hl2⟩
  refine ⟨q3, t1, s2, hq3, hl3, fun e t' s' he hl' => ?_⟩
  have a1 := m1 t' ⟨e, s', he, hl'⟩
  by_cases et : t1 = t'
  · subst et
    have a2 := m2 s' ⟨e, he, hl'⟩
    by_cases es : s2 = s'
    · subst es
      exact Or.inr ⟨rfl, Or.inr ⟨rfl, m3 e ⟨he, hl'⟩⟩⟩
    · exact Or.inr ⟨rfl, Or.inl (by omega)⟩
  · exact Or.inl (by omega)
/-- least of the first steps -/
def mnF (S : Nat → Bool) (F : Nat → Nat) (a : Nat) : Nat → Nat
  | 0 => FARn
  | n + 1 => min (mnF S F a n) (sbN S F a n n)
theorem mnF_fs {S : Nat → Bool} {g a : Nat} {F : Nat → Nat} (hG : wfG S g F) (X : wfX S g F) (hg : g < 1024) (ha : a < 1024) {q t s : Nat} (fs : fsP S g a q t s) (sa : S a = true) : (∀ n, n ≤ 4 → s + 10000 * t ≤ mnF S F a n ∧ (q < n → mnF S F a n = s + 10000 * t)) ∧ sbN S F a q q = s + 10000 * t ∧ ∀ e, e < q → sbN S F a e e ≠ s + 10000 * t := by
  obtain ⟨hq, hl, hm⟩ := fs
  obtain ⟨b1, b2, b3⟩ := lx_bd ha hq hg hl
  have v : ∀ e, e < 4 → (sbN S F a e e = FARn ∨ ∃ t' s', lx S g a e t' s' ∧ sbN S F a e e = s' + 10000 * t' ∧ s' ≤ 1024) := fun e he => by
    by_cases z : ∃ s t, wy S g s t a e
    · obtain ⟨s1, t1, hw⟩ := z
      obtain ⟨t', s', hl'⟩ := lx_ex hw
      refine Or.inr ⟨t', s', hl', ?_, (lx_bd ha he hg hl').2.1⟩
      rw [sb_lx hG X hg ha he hl', tn_s]; rfl
    · exact Or.inl (sb_no hG ha he sa (fun s t hw => z ⟨s, t, hw⟩))
  have vq : sbN S F a q q = s + 10000 * t := by rw [sb_lx hG X hg ha hq hl, tn_s]; rfl
  have lo : ∀ e, e < 4 → s + 10000 * t ≤ sbN S F a e e := fun e he => by
    rcases v e he with z | ⟨t', s', hl', z, z2⟩
    · rw [z]; unfold FARn; omega
    · have := hm e t' s' he hl'; omega
  refine ⟨fun n => ?_, vq, fun e he z => ?_⟩
  · induction n with
    | zero => intro _; exact ⟨by show _ ≤ FARn; unfold FARn; omega, fun z => by omega⟩
    | succ n ih =>
      intro hn
      obtain ⟨i1, i2⟩ := ih (by omega)
      have l := lo n (by omega)
      show s + 10000 * t ≤ min (mnF S F a n) (sbN S F a n n) ∧ (q < n + 1 → min (mnF S F a n) (sbN S F a n n) = s + 10000 * t)
      refine ⟨by omega, fun z => ?_⟩
      by_cases u : q = n
      · subst u; rw [vq]; omega
      · have := i2 (by omega); omega
  · rcases v e (by omega) with u | ⟨t', s', hl', u, u2⟩
    · rw [u] at z; unfold FARn at z; omega
    · have := hm e t' s' (by omega) hl'
      omega
theorem mnF_no {S : Nat → Bool} {g a : Nat} {F : Nat → Nat} (hG : wfG S g F) (ha : a < 1024) (no : ∀ q t s, q < 4 → ¬ wy S g s t a q) (sa : S a = true) : ∀ n, n ≤ 4 → mnF S F a n = FARn
  | 0, _ => rfl
  | n + 1, hn => by
    show min (mnF S F a n) (sbN S F a n n) = FARn
    rw [mnF_no hG ha no sa n (by omega), sb_no hG ha (by omega) sa (fun s t hw => no n t s (by omega) hw)]; omega
section
variable {G : mG} {d : Nat} {b : Nat × Nat} {h : mH} {Q : Option mV → mH → Prop}
theorem m_firstBy {S : Nat → Bool} {F : Nat → Nat} {k e : Nat} (hS : mSk h) (hs : ∀ k, k < 1024 → mI h 88 k = b2i (S k)) (hF : wfM h F) (hk : k < 1024) (he : e < 4) (K : Q (some (.inl (nI (sbN S F k e e)))) h) : mC G kX12_firstBy (d + 2) b [.inr (some 47), .inl (nI k), .inl (nI e)] h Q :=
  qX12_firstBy _ _ hS (m_stepBy (S := S) hS hs hF hk he he ⟨_, rfl, hS, K⟩)
set_option maxHeartbeats 1000000 in
theorem m_wayL {S : Nat → Bool} {F : Nat → Nat} {g a : Nat} (v5 : Int32) (hS : mSk h) (hs : ∀ k, k < 1024 → mI h 88 k = b2i (S k)) (hF : wfM h F) (hG : wfG S g F) (X : wfX S g F) (hg : g < 1024) (ha : a < 1024) (sa : S a = true) (i5 : v5 = -1 ∨ v5 = 100 ∨ ∃ n, n < 100 ∧ v5 = nI n)
    (K1 : (∀ q t s, q < 4 → ¬ wy S g s t a q) → Q (some (.inl (-2))) h)
    (K2 : ∀ q t s r, fsP S g a q t s → ((v5 = -1 ∧ r = nI t) ∨ (v5 = 100 ∧ r = nI s) ∨ (∃ n, n < 100 ∧ v5 = nI n ∧ ((s ≤ n ∧ r = -1) ∨ (n < s ∧ ∃ k q' t' s', wkP S g a q t s n k q' t' s' ∧ r = nI q')))) → Q (some (.inl r)) h) :
    mW G kX12_wayIn (d + 9) b 117 [some (.inr (some 47)), none, none, none, none, some (.inl v5), some (.inl (nI a)), none, some (.inl 1000000000), some (.inl 0), none, none, none] [] h Q := by
  have hb : ∀ j, j < 4096 → F j ≤ FARn := fun j hj => (hF j hj).2
  have mb : ∀ n, mnF S F a n ≤ FARn := fun n => by
    cases n with
    | zero => exact Nat.le_refl _
    | succ n =>
      induction n with
      | zero => show min FARn _ ≤ FARn; omega
      | succ n ih => show min (mnF S F a (n + 1)) _ ≤ FARn; omega
  -- the walk
  have walk : ∀ (q t s n : Nat), fsP S g a q t s → n < 100 → v5 = nI n → n < s → ∀ (r i k q1 t1 s1 : Nat), i + r = n → wkP S g a q t s i k q1 t1 s1 →
      mW G kX12_wayIn (d + 9) b 227 [some (.inr (some 47)), none, none, none, none, some (.inl v5), none, none, none, some (.inl (nI q1)), some (.inl (nI k)), some (.inl (nI i)), none] [] h Q := by
    intro q t s n fs hn ev hns r
    have hq := fs.1
    have hl := fs.2.1
    have bd := lx_bd ha hq hg hl
    induction r with
    | zero =>
      intro i k q1 t1 s1 hi wk
      have : i = n := by omega
      subst this
      refine qX12_wayIn_227 _ _ _ _ hS ⟨fun _ => K2 q t s _ fs (Or.inr (Or.inr ⟨i, hn, ev, Or.inr ⟨hns, k, q1, t1, s1, wk, rfl⟩⟩)), fun z => ?_⟩
      rw [ev] at z
      exact absurd (nI_le (Nat.le_refl _) (by omega)) z
    | succ r ih =>
      intro i k q1 t1 s1 hi wk
      obtain ⟨w1, w2, w3, w4, w5⟩ := wkP_lx ha hq hl i k q1 t1 s1 wk
      obtain ⟨s2, es⟩ : ∃ s2, s1 = s2 + 1 := ⟨s1 - 1, by omega⟩
      subst es
      obtain ⟨ok, nx⟩ := lx_nx w3
      have hr := ok.2.1
      obtain ⟨n1, n2, n3⟩ := nk_lt w1 w2 hr
      have ng : nk k q1 ≠ g := by
        rcases nx with ⟨-, u, -⟩ | ⟨u, -⟩
        · omega
        · exact u
      obtain ⟨e0, t0, he0, hla, ht0⟩ := la_nx w3 ng
      have eF : F (4 * nk k q1 + q1) = s2 + 10000 * t1 := by rw [wf_la hG X hg n1 ng w2 he0 hla, ht0]
      obtain ⟨c1, c2, c3⟩ := lx_bd w1 w2 hg w3
      refine qX12_wayIn_227 _ _ _ _ hS ⟨fun z => ?_, fun _ => ?_⟩
      · rw [ev] at z
        exact absurd z (nI_ge (by omega) (by omega))
      · have hx : k % 32 < 32 := by omega
        have hy : k / 32 < 32 := by omega
        obtain ⟨-, i2⟩ := st_in w2 hx hy
        have ek : ((32 * ((nI k / 32) + (f_X12_stepY (nI q1)))) + (m_rem (nI k) 32)) + (f_X12_stepX (nI q1)) = nI (nk k q1) := by
          rw [(f_st q1 w2).1, (f_st q1 w2).2, show (32 : Int32) = nI 32 from rfl, ii_div (by omega) (by omega) (by omega), ii_rem (by omega) (by omega) (by omega), (i2 hr).2, Int32.add_assoc, (i2 hr).1, pk_mul, nI_add]
          rfl
        rw [ek]
        have find : ∀ (r e : Nat), e + r = 4 → (∀ e', e' < e → ∀ t', lx S g (nk k q1) e' t' s2 → t' + tn e' q1 = t1 → False) →
            mW G kX12_wayIn (d + 9) b 265 [some (.inr (some 47)), none, none, none, none, some (.inl v5), none, none, none, some (.inl (nI q1)), some (.inl (nI (nk k q1))), some (.inl (nI i)), some (.inl (nI e))] [] h Q := by
          intro r
          induction r with
          | zero =>
            intro e he lo
            exact (lo e0 (by omega) t0 (la_lx he0 hla) (by omega)).elim
          | succ r ihe =>
            intro e he lo
            have he4 : e < 4 := by omega
            have ej : 4 * nI (nk k q1) + nI q1 = nI (4 * nk k q1 + q1) := by rw [show (4 : Int32) = nI 4 from rfl, pk_mul, nI_add]
            have sk : S (nk k q1) = true := ok.2.2
            refine qX12_wayIn_265 _ _ _ _ _ hS (m_stepBy (S := S) hS hs hF n1 w2 he4 ⟨_, rfl, hS, ?_⟩)
            have bb := sbN_b (S := S) (p := q1) hb n1 he4
            unfold FARn at bb
            rw [ej, nI_clamp (show 4 * nk k q1 + q1 < 2 ^ 31 by omega), (hF _ (show 4 * nk k q1 + q1 < 4096 by omega)).1, eF, nI_1, nI_1, nI_eq (by omega) (by omega)]
            refine ⟨vp_in_nI (by omega) (by omega), fun z => ?_, fun z => ihe (e + 1) (by omega) (fun e' he' t' hl' ht' => ?_)⟩
            · by_cases ex : ∃ s t, wy S g s t (nk k q1) e
              · obtain ⟨s3, t3, hw⟩ := ex
                obtain ⟨t4, s4, hl4⟩ := lx_ex hw
                obtain ⟨d1, d2, d3⟩ := lx_bd n1 he4 hg hl4
                rw [sb_lx hG X hg n1 he4 hl4] at z
                have es : s4 = s2 := by omega
                subst es
                exact ih (i + 1) (nk k q1) e t4 s4 (by omega) ⟨k, q1, t1, wk, rfl, he4, hl4, by omega, fun e' t' he' hl' ht' => lo e' he' t' hl' ht'⟩
              · rw [sb_no hG n1 he4 sk (fun s t hw => ex ⟨s, t, hw⟩)] at z
                unfold FARn at z
                omega
            · by_cases u : e' = e
              · subst u
                rw [sb_lx hG X hg n1 he4 hl'] at z
                omega
              · exact lo e' (by omega) t' hl' ht'
        exact find 4 0 (by omega) (fun e' z => by omega)
  -- the first step
  have first : ∀ (q t s n : Nat), fsP S g a q t s → n < 100 → v5 = nI n → n < s → ∀ (r e : Nat), e + r = q → mW G kX12_wayIn (d + 9) b 198 [some (.inr (some 47)), none, none, none, none, some (.inl v5), some (.inl (nI a)), none, some (.inl (nI (s + 10000 * t))), some (.inl (nI e)), none, none, none] [] h Q := by
    intro q t s n fs hn ev hns r
    have hq := fs.1
    have bd := lx_bd ha hq hg fs.2.1
    obtain ⟨-, m2, m3⟩ := mnF_fs hG X hg ha fs sa
    induction r with
    | zero =>
      intro e he
      have : e = q := by omega
      subst this
      refine qX12_wayIn_198 _ _ _ _ hS (m_firstBy (S := S) hS hs hF ha hq ⟨_, rfl, hS, fun _ => ?_, fun z => ?_⟩)
      · exact walk e t s n fs hn ev hns n 0 a e t s (by omega) ⟨rfl, rfl, rfl, rfl⟩
      · exact absurd (by rw [m2]) z
    | succ r ih =>
      intro e he
      have bb := sbN_b (S := S) (p := e) (e := e) hb ha (by omega)
      unfold FARn at bb
      refine qX12_wayIn_198 _ _ _ _ hS (m_firstBy (S := S) hS hs hF ha (by omega) ⟨_, rfl, hS, fun z => ?_, fun _ => ?_⟩)
      · exact (m3 e (by omega) (nI_bk (by omega) (by omega) z)).elim
      · rw [nI_1]; exact ih (e + 1) (by omega)
  -- the best
  have lp : ∀ (r e : Nat), e + r = 4 → mW G kX12_wayIn (d + 9) b 117 [some (.inr (some 47)), none, none, none, none, some (.inl v5), some (.inl (nI a)), none, some (.inl (nI (mnF S F a e))), some (.inl (nI e)), none, none, none] [] h Q := by
    intro r
    induction r with
    | zero =>
      intro e he
      have : e = 4 := by omega
      subst this
      have m4 := mb 4
      unfold FARn at m4
      refine qX12_wayIn_117 _ _ _ _ hS ⟨fun _ => ?_, fun z => absurd (nI_le (a := 4) (by omega) (by omega)) z⟩
      rw [show (1000000000 : Int32) = nI 1000000000 from rfl, nI_ltI (by omega) (by omega)]
      by_cases ex : ∃ q t s, q < 4 ∧ wy S g s t a q
      · obtain ⟨q, t, s, fs⟩ := fs_ex ex
        have bd := lx_bd ha fs.1 hg fs.2.1
        obtain ⟨m1, -, -⟩ := mnF_fs hG X hg ha fs sa
        have e4 := (m1 4 (by omega)).2 fs.1
        rw [e4, show (10000 : Int32) = nI 10000 from rfl, ii_div (by omega) (by omega) (by omega), ii_rem (by omega) (by omega) (by omega), show (s + 10000 * t) / 10000 = t by omega, show (s + 10000 * t) % 10000 = s by omega]
        refine ⟨fun _ => ⟨fun c1 => ⟨fun c2 => ?_, fun c2 => K2 q t s _ fs (Or.inr (Or.inl ⟨c2, rfl⟩))⟩, fun c1 => K2 q t s _ fs (Or.inl ⟨c1, rfl⟩)⟩, fun z => by omega⟩
        rcases i5 with z | z | ⟨n, hn, z⟩
        · exact (c1 z).elim
        · exact (c2 z).elim
        · refine ⟨fun lt => ?_, fun nl => K2 q t s _ fs (Or.inr (Or.inr ⟨n, hn, z, Or.inl ⟨?_, rfl⟩⟩))⟩
          · rw [z, nI_ltI (by omega) (by omega)] at lt
            exact first q t s n fs hn z lt q 0 (by omega)
          · rw [z, nI_ltI (by omega) (by omega)] at nl
            omega
      · have no : ∀ q t s, q < 4 → ¬ wy S g s t a q := fun q t s hq hw => ex ⟨q, t, s, hq, hw⟩
        have e4 := mnF_no hG ha no sa 4 (by omega)
        rw [e4]
        unfold FARn
        exact ⟨fun z => by omega, fun _ => K1 no⟩
    | succ r ih =>
      intro e he
      have bb := sbN_b (S := S) (p := e) (e := e) hb ha (by omega)
      have m4 := mb e
      unfold FARn at bb m4
      refine qX12_wayIn_117 _ _ _ _ hS ⟨fun z => absurd z (nI_ge (b := 4) (by omega) (by omega)), fun _ => m_firstBy (S := S) hS hs hF ha (by omega) ⟨_, rfl, hS, ?_⟩⟩
      rw [least_b (by omega) (by omega), nI_1]
      exact ih (e + 1) (by omega)
  exact lp 4 0 (by omega)
theorem m_wayIn (v1 v2 v3 v4 v5 : Int32) {W : aW} (hS : mSk h) (hW : mWo h W) (K1 : ¬ (¬ f_X11_inGrid v1 v2 = 0 ∧ ¬ f_X11_inGrid v3 v4 = 0 ∧ ¬ f_X11_within v5 (-1) 100 = 0) → Q (some (.inl (-1))) h)
    (K2 : ∀ x y x' y', x < 32 → y < 32 → x' < 32 → y' < 32 → v1 = nI x → v2 = nI y → v3 = nI x' → v4 = nI y' → ¬ f_X11_within v5 (-1) 100 = 0 → ∀ h' r, mFr2 aWm h h' → mWo h' W → isWy W (32 * y + x) (32 * y' + x') v5 r → Q (some (.inl r)) h') : mC G kX12_wayIn (d + 9) b [.inr (some 47), .inl v1, .inl v2, .inl v3, .inl v4, .inl v5] h Q := by
  refine qX12_wayIn _ _ _ _ _ hS ⟨fun z => K1 (fun u => u.1 z), fun g1 => ⟨fun z => K1 (fun u => u.2.1 z), fun g2 => ⟨fun g3 => ?_, fun z => K1 (fun u => u.2.2 z)⟩⟩⟩
  obtain ⟨x, y, hx, hy, ex, ey⟩ := grid_ex g1
  obtain ⟨x', y', hx', hy', ex', ey'⟩ := grid_ex g2
  have K := K2 x y x' y' hx hy hx' hy' ex ey ex' ey' g3
  have ea : 32 * nI y + nI x = nI (32 * y + x) := by rw [show (32 : Int32) = nI 32 from rfl, pk_mul, nI_add]
  have eg : 32 * nI y' + nI x' = nI (32 * y' + x') := by rw [show (32 : Int32) = nI 32 from rfl, pk_mul, nI_add]
  obtain ⟨a, hea⟩ : ∃ a, a = 32 * y + x := ⟨_, rfl⟩
  obtain ⟨g, heg⟩ : ∃ g, g = 32 * y' + x' := ⟨_, rfl⟩
  have ha : a < 1024 := by omega
  have hg : g < 1024 := by omega
  rw [ex, ey, ex', ey', ea, eg, ← hea, ← heg]
  rw [← hea, ← heg] at K
  refine m_laysSure hS hW (fun h1 f1 F1 s1 => ?_)
  have hS1 := f1.1.sk hS
  have FF : mFr2 aWm h h1 := f1.wk (fun a k z => Or.inl z)
  have W1 : mWo h1 W := hW.fr FF aWm_d
  have s1' : ∀ k, k < 1024 → mI h1 88 k = b2i (swK W k) := s1
  refine ⟨fun nf => ⟨_, rfl, hS1, fun _ => K h1 (-2) FF W1 (Or.inl ⟨fun u => ?_, rfl⟩), fun z => absurd rfl z⟩, fun nf => ⟨_, rfl, hS1, fun z => absurd z (by decide), fun _ => ⟨vp_in_nI ha (by omega), ?_⟩⟩⟩
  · have := u.1
    unfold swK at this
    exact (swB_t.mp this).1 nf
  · rw [nI_clamp (show a < 2 ^ 31 by omega), nI_clamp (show g < 2 ^ 31 by omega), s1' a ha, s1' g hg, b2i_0, b2i_0]
    refine ⟨fun z => K h1 (-2) FF W1 (Or.inl ⟨fun u => by rw [z] at u; exact absurd u.1 (by decide), rfl⟩), fun z => ⟨vp_in_nI hg (by omega), fun z2 => ?_, fun z2 => K h1 (-2) FF W1 (Or.inl ⟨fun u => by rw [z2] at u; exact absurd u.2 (by decide), rfl⟩)⟩⟩
    have sa : swK W a = true := by revert z; cases swK W a <;> simp
    have sg : swK W g = true := by revert z2; cases swK W g <;> simp
    refine ⟨fun ne => ?_, fun eq w6 e6 => ?_⟩
    · have hag : a ≠ g := fun u => ne (by rw [u])
      refine m_laysWays (d := d + 5) (S := swK W) hS1 hg s1' (fun h5 F f5 hF hG X => ⟨rfl, f5.1.sk hS1, ?_⟩)
      have F5 : mFr2 aWm h h5 := FF.tr (f5.wk (fun a k z => Or.inr z))
      have W5 : mWo h5 W := hW.fr F5 aWm_d
      exact m_wayL (S := swK W) (F := F) (g := g) (a := a) v5 (f5.1.sk hS1) (fun k hk => by rw [f5.2 _ _ (by omega)]; exact s1' k hk) hF hG X hg ha sa (m1_ex g3) (fun no => K h5 (-2) F5 W5 (Or.inr ⟨⟨sa, sg⟩, Or.inr (Or.inl ⟨hag, no, rfl⟩)⟩)) (fun q t s r fs u => K h5 r F5 W5 (Or.inr ⟨⟨sa, sg⟩, Or.inr (Or.inr ⟨hag, q, t, s, fs, u⟩)⟩))
    · have e := nI_bk (by omega) (by omega) eq
      refine K h1 w6 FF W1 (Or.inr ⟨⟨sa, sg⟩, Or.inl ⟨e, ?_⟩⟩)
      rw [e6]
      by_cases c1 : v5 = -1
      · rw [if_pos c1, if_pos (Or.inl c1)]
      · rw [if_neg c1]
        by_cases c2 : v5 = 100
        · rw [if_neg (fun u => u c2), if_pos (Or.inr c2)]
        · rw [if_pos c2, if_neg (by rintro (u | u) <;> contradiction)]
end
