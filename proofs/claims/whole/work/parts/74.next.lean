/-! choices, states, next (model) -/
abbrev aDc : Type := (Int × Int) × Nat
abbrev aCc : Type := Int32 × (Nat → aDc)
def okDc (D : aDc) : Prop := (-9 ≤ D.1.1 ∧ D.1.1 ≤ 9) ∧ (-9 ≤ D.1.2 ∧ D.1.2 ≤ 9) ∧ D.2 < 4
def chM (h : mH) (CH : aCc) : Prop := mI h 47 52 = CH.1 ∧ (∀ i, i < 32 → bt CH.1 i = true → i < 6) ∧ ∀ i, i < 6 → bt CH.1 i = true → (mI h 81 i = iI (CH.2 i).1.1 ∧ mI h 82 i = iI (CH.2 i).1.2 ∧ mI h 83 i = nI (CH.2 i).2) ∧ okDc (CH.2 i)
def tX (D : aDc) (k : Nat) : Int := (k % 32 : Nat) + D.1.1
def tY (D : aDc) (k : Nat) : Int := (k / 32 : Nat) + D.1.2
def tG (D : aDc) (k : Nat) : Prop := (0 ≤ tX D k ∧ tX D k < 32) ∧ (0 ≤ tY D k ∧ tY D k < 32)
noncomputable def mvB (C : aCo) (D : aDc) (k : Nat) : Bool := @decide (tG D k) (Classical.propDecidable _) && !coLand C (tX D k).toNat (tY D k).toNat
theorem mvB_t {C : aCo} {D : aDc} {k : Nat} : mvB C D k = true ↔ (tG D k ∧ coLand C (tX D k).toNat (tY D k).toNat = false) := by
  unfold mvB
  rw [Bool.and_eq_true, @decide_eq_true_iff _ (Classical.propDecidable _)]
  simp
def mvT (D : aDc) (k : Nat) : Nat := 32 * (tY D k).toNat + (tX D k).toNat
/-- one of the answers of a cell is a -/
def awB (C : aCo) (q x y a : Nat) : Bool := if a = 0 then siC C q x y else decide (ecC C q x y = a)
noncomputable def aaB (C : aCo) (D : aDc) (k a : Nat) : Bool := mvB C D k && awB C D.2 (tX D k).toNat (tY D k).toNat a
noncomputable def anN (W : aW) (D : aDc) (a : Nat) : Nat := smN (fun c => cnt (fun k => thB W c (wl W - 1) k && aaB (wC W c) D k a) 1024) (wn W)
noncomputable def stN (W : aW) : Nat := smN (fun c => cnt (thB W c (wl W - 1)) 1024) (wn W)
def mxN (f : Nat → Nat) : Nat → Nat
  | 0 => 0
  | n + 1 => max (mxN f n) (f n)
theorem mxN_s (f : Nat → Nat) (n : Nat) : mxN f (n + 1) = max (mxN f n) (f n) := rfl
theorem mxN_le {f : Nat → Nat} : ∀ n i, i < n → f i ≤ mxN f n
  | n + 1, i, h => by
    rw [mxN_s]
    by_cases e : i = n
    · rw [e]; omega
    · have := mxN_le (f := f) n i (by omega); omega
theorem mxN_ub {f : Nat → Nat} {M : Nat} : ∀ n, (∀ i, i < n → f i ≤ M) → mxN f n ≤ M
  | 0, _ => Nat.zero_le _
  | n + 1, h => by
    rw [mxN_s]
    have := mxN_ub n (fun i hi => h i (by omega))
    have := h n (by omega)
    omega
theorem mxN_cong {f g : Nat → Nat} : ∀ n, (∀ i, i < n → f i = g i) → mxN f n = mxN g n
  | 0, _ => rfl
  | n + 1, h => by rw [mxN_s, mxN_s, mxN_cong n (fun i hi => h i (by omega)), h n (by omega)]
def wsF (f : Nat → Nat) (m : Nat) : Nat → Nat → Int32
  | 0, _ => -2
  | r + 1, a => if 0 < m ∧ f a = m then nI a else wsF f m r (a + 1)
theorem wsF_s (f : Nat → Nat) (m r a : Nat) : wsF f m (r + 1) a = if 0 < m ∧ f a = m then nI a else wsF f m r (a + 1) := rfl
theorem stN_le {W : aW} (hn : wn W ≤ 8) : stN W ≤ 8192 := by
  have := smN_le (f := fun c => cnt (thB W c (wl W - 1)) 1024) (M := 1024) (fun y => cnt_le _ 1024) (wn W)
  unfold stN
  have h2 : wn W * 1024 ≤ 8 * 1024 := Nat.mul_le_mul_right _ hn
  omega
theorem anN_le {W : aW} (hn : wn W ≤ 8) (D : aDc) (a : Nat) : anN W D a ≤ 8192 := by
  have := smN_le (f := fun c => cnt (fun k => thB W c (wl W - 1) k && aaB (wC W c) D k a) 1024) (M := 1024) (fun y => cnt_le _ 1024) (wn W)
  unfold anN
  have h2 : wn W * 1024 ≤ 8 * 1024 := Nat.mul_le_mul_right _ hn
  omega
noncomputable def nxM (W : aW) (D : aDc) : Nat := mxN (anN W D) 65
/-- the best of the first choices -/
noncomputable def bsF (M : Nat → Nat) (T : Nat → Bool) : Nat → Option Nat
  | 0 => none
  | i + 1 => if T i then (match bsF M T i with | none => some i | some j => if M i < M j then some i else some j) else bsF M T i
theorem bsF_n {M : Nat → Nat} {T : Nat → Bool} {i : Nat} (h : T i = false) : bsF M T (i + 1) = bsF M T i := by
  show (if T i then _ else bsF M T i) = _
  rw [h]; rfl
theorem bsF_0 {M : Nat → Nat} {T : Nat → Bool} {i : Nat} (h : T i = true) (e : bsF M T i = none) : bsF M T (i + 1) = some i := by
  show (if T i then (match bsF M T i with | none => some i | some j => if M i < M j then some i else some j) else bsF M T i) = _
  rw [h, e]; rfl
theorem bsF_s {M : Nat → Nat} {T : Nat → Bool} {i j : Nat} (h : T i = true) (e : bsF M T i = some j) : bsF M T (i + 1) = if M i < M j then some i else some j := by
  show (if T i then (match bsF M T i with | none => some i | some j => if M i < M j then some i else some j) else bsF M T i) = _
  rw [h, e]; rfl
theorem bsF_ex {M : Nat → Nat} {T : Nat → Bool} : ∀ n i, i < n → T i = true → ∃ j, j < n ∧ T j = true ∧ bsF M T n = some j
  | n + 1, i, hi, ht => by
    cases hT : T n with
    | false =>
      have hne : i ≠ n := fun e => by rw [e, hT] at ht; cases ht
      obtain ⟨j, h1, h2, h3⟩ := bsF_ex (M := M) n i (by omega) ht
      exact ⟨j, by omega, h2, by rw [bsF_n hT]; exact h3⟩
    | true =>
      cases hb : bsF M T n with
      | none => exact ⟨n, by omega, hT, bsF_0 hT hb⟩
      | some j =>
        rw [bsF_s hT hb]
        by_cases q : M n < M j
        · rw [if_pos q]; exact ⟨n, by omega, hT, rfl⟩
        · rw [if_neg q]
          obtain ⟨j', h1, h2, h3⟩ : ∃ j', j' < n ∧ T j' = true ∧ bsF M T n = some j' := by
            apply Classical.byContradiction
            intro t
            have all : ∀ m, m ≤ n → bsF M T m = none ∨ ∃ j', j' < m ∧ T j' = true ∧ bsF M T m = some j' := by
              intro m
              induction m with
              | zero => intro _; exact Or.inl rfl
              | succ m ih =>
                intro hm
                cases hTm : T m with
                | false =>
                  rw [bsF_n hTm]
                  rcases ih (by omega) with q | ⟨j', a1, a2, a3⟩
                  · exact Or.inl q
                  · exact Or.inr ⟨j', by omega, a2, a3⟩
                | true =>
                  rcases ih (by omega) with q | ⟨j', a1, a2, a3⟩
                  · exact Or.inr ⟨m, by omega, hTm, bsF_0 hTm q⟩
                  · rw [bsF_s hTm a3]
                    by_cases q : M m < M j'
                    · rw [if_pos q]; exact Or.inr ⟨m, by omega, hTm, rfl⟩
                    · rw [if_neg q]; exact Or.inr ⟨j', by omega, a2, rfl⟩
            rcases all n (Nat.le_refl _) with q | q
            · rw [hb] at q; cases q
            · exact t q
          rw [hb] at h3
          cases h3
          exact ⟨j, by omega, h2, rfl⟩
def oI (o : Option Nat) (d : Int32) (f : Nat → Int32) : Int32 := match o with
  | none => d
  | some j => f j
theorem oI_s (j : Nat) (d : Int32) (f : Nat → Int32) : oI (some j) d f = f j := rfl
theorem oI_n (d : Int32) (f : Nat → Int32) : oI none d f = d := rfl
theorem nI_nmb {n : Nat} (hn : n < 100000) : ¬ nI n = (-1 : Int32) := fun z => by
  have := congrArg Int32.toInt z
  rw [nI_toI (by omega)] at this
  have e2 : ((-1 : Int32)).toInt = -1 := by decide
  omega
noncomputable def nxO (W : aW) (CH : aCc) (i : Nat) : Option Nat := bsF (fun j => nxM W (CH.2 j)) (bt CH.1) i
noncomputable def nxA (W : aW) (CH : aCc) (w : Nat) : Int32 := if w = 0 then oI (nxO W CH 6) (-1) nI else if w = 1 then oI (nxO W CH 6) 1000000000 (fun j => nI (nxM W (CH.2 j))) else if w = 2 then oI (nxO W CH 6) (-2) (fun j => wsF (anN W (CH.2 j)) (nxM W (CH.2 j)) 65 0) else nI (stN W)
/-- the states lie in two rows -/
def stM (h : mH) (W : aW) : Prop := mI h 47 53 = nI (stN W) ∧ ∃ SC SK : Nat → Nat, (∀ s, s < stN W → SC s < wn W ∧ SK s < 1024 ∧ mI h 84 s = nI (SC s) ∧ mI h 85 s = nI (SK s)) ∧ ∀ P : Nat → Nat → Bool, cnt (fun s => P (SC s) (SK s)) (stN W) = smN (fun c => cnt (fun k => thB W c (wl W - 1) k && P c k) 1024) (wn W)
def aSt : Nat → Nat → Prop := fun a k => aFo a k ∨ a = 84 ∨ a = 85 ∨ (a = 47 ∧ k = 53)
theorem aSt_d : ∀ a k, dM a k → ¬ aSt a k := fun a k z1 z2 => by unfold dM at z1; unfold aSt aFo at z2; omega
theorem chM.fr {A : Nat → Nat → Prop} {h h' : mH} {CH : aCc} (f : mFr2 A h h') (h1 : ¬ A 47 52) (h2 : ∀ a k, 81 ≤ a → a ≤ 83 → ¬ A a k) (c : chM h CH) : chM h' CH := by
  obtain ⟨c1, c2, c3⟩ := c
  refine ⟨by rw [f.2 _ _ h1]; exact c1, c2, fun i hi hb => ?_⟩
  rw [f.2 _ _ (h2 81 i (by omega) (by omega)), f.2 _ _ (h2 82 i (by omega) (by omega)), f.2 _ _ (h2 83 i (by omega) (by omega))]
  exact c3 i hi hb
theorem cnt_s (p : Nat → Bool) (n : Nat) : cnt p (n + 1) = cnt p n + (if p n then 1 else 0) := rfl
section
variable {G : mG} {d : Nat} {b : Nat × Nat} {h : mH} {Q : Option mV → mH → Prop}
set_option maxHeartbeats 1000000 in
theorem m_laysStates {W : aW} (hS : mSk h) (hW : mWo h W) (h0 : 0 < wl W) (K : ∀ h', mFr2 aSt h h' → stM h' W → Q none h') : mC G kX12_laysStates (d + 7) b [.inr (some 47)] h Q := by
  have hn8 := hW.1.2.1
  have hl12 := hW.2.2.2.2.1.2.1
  obtain ⟨L, hL⟩ : ∃ L, L = wl W - 1 := ⟨_, rfl⟩
  obtain ⟨NN, hNN⟩ : ∃ NN : Nat → Nat, NN = fun c => smN (fun c => cnt (thB W c L) 1024) c := ⟨_, rfl⟩
  have hNl : ∀ c, NN c ≤ c * 1024 := fun c => by rw [hNN]; exact smN_le (fun y => cnt_le _ 1024) c
  have hNs : ∀ c, NN (c + 1) = NN c + cnt (thB W c L) 1024 := fun c => by rw [hNN]; rfl
  obtain ⟨PP, hPP⟩ : ∃ PP : (Nat → Nat → Bool) → Nat → Nat, PP = fun P c => smN (fun c => cnt (fun k => thB W c L k && P c k) 1024) c := ⟨_, rfl⟩
  have hPs : ∀ P c, PP P (c + 1) = PP P c + cnt (fun k => thB W c L k && P c k) 1024 := fun P c => by rw [hPP]; rfl
  refine qX12_laysStates hS (fun h1 e1 => ?_)
  have f1 : mFr2 aSt h h1 := by rw [e1]; exact mFr2.SI (Or.inr (Or.inr (Or.inr ⟨rfl, rfl⟩)))
  have I0 : ∀ (h2 : mH) (N : Nat) (SC SK : Nat → Nat), Prop := fun h2 N SC SK => mI h2 47 53 = nI N ∧ ∀ s, s < N → SC s < wn W ∧ SK s < 1024 ∧ mI h2 84 s = nI (SC s) ∧ mI h2 85 s = nI (SK s)
  refine mloop (W := fun c h2 => mW G kX12_laysStates (d + 7) b 7 [some (.inr (some 47)), some (.inl (nI c)), none] [] h2 Q)
    (P := fun c h2 => mFr2 aSt h h2 ∧ mI h2 47 53 = nI (NN c) ∧ ∃ SC SK : Nat → Nat, (∀ s, s < NN c → SC s < wn W ∧ SK s < 1024 ∧ mI h2 84 s = nI (SC s) ∧ mI h2 85 s = nI (SK s)) ∧ ∀ P : Nat → Nat → Bool, cnt (fun s => P (SC s) (SK s)) (NN c) = PP P c) (wn W) ?_ ?_ 0 h1 (by omega) ⟨f1, by rw [e1, mI_SI_s, hNN]; rfl, fun _ => 0, fun _ => 0, fun s hs => by rw [hNN] at hs; exact absurd hs (Nat.not_lt_zero _), fun P => by rw [hNN, hPP]; rfl⟩
  · rintro c h2 hc ⟨f2, eN, SC, SK, c1, c2⟩ ih
    have hS2 := f2.1.sk hS
    have hW2 := mWo.fr f2 aSt_d hW
    refine qX12_laysStates_7 _ hS2 ⟨fun z => absurd z (by rw [hW2.1.1]; exact nI_ge hc (by omega)), fun _ => ⟨fun z => absurd z (by rw [hW2.2.2.2.2.1.1]; exact nI_nle h0 (by omega)), fun _ => m_laysPossible hS2 hW2 hc h0 (fun h3 f3 p3 => ⟨rfl, f3.1.sk hS2, ?_⟩)⟩⟩
    have hS3 := f3.1.sk hS2
    refine mloop (W := fun k h4 => mW G kX12_laysStates (d + 7) b 29 [some (.inr (some 47)), some (.inl (nI c)), some (.inl (nI k))] [] h4 Q)
      (P := fun k h4 => mFr2 (fun a k => a = 84 ∨ a = 85 ∨ (a = 47 ∧ k = 53)) h3 h4 ∧ mI h4 47 53 = nI (NN c + cnt (thB W c L) k) ∧ ∃ SC SK : Nat → Nat, (∀ s, s < NN c + cnt (thB W c L) k → SC s < wn W ∧ SK s < 1024 ∧ mI h4 84 s = nI (SC s) ∧ mI h4 85 s = nI (SK s)) ∧ ∀ P : Nat → Nat → Bool, cnt (fun s => P (SC s) (SK s)) (NN c + cnt (thB W c L) k) = PP P c + cnt (fun k => thB W c L k && P c k) k) 1024 ?_ ?_ 0 h3 (by omega) ⟨mFr2.rf, by rw [f3.2 _ _ (fun z => by unfold aFo at z; omega)]; exact eN, SC, SK, fun s hs => by rw [f3.2 _ _ (fun z => by unfold aFo at z; omega), f3.2 _ _ (fun z => by unfold aFo at z; omega)]; exact c1 s hs, fun P => c2 P⟩
    · rintro k h4 hk ⟨f4, eN4, SC, SK, c1, c2⟩ ih4
      have hS4 := f4.1.sk hS3
      have f34 : mFr2 aSt h2 h4 := (f3.wk (fun a k z => Or.inl z)).tr (f4.wk (fun a k z => Or.inr z))
      have hW4 := mWo.fr f34 aSt_d hW2
      have p4 : posM h4 W c := ⟨fun i k hi hk => by rw [f4.2 _ _ (fun z => by omega)]; exact p3.1 i k hi hk, fun i k hi hk => by rw [f4.2 _ _ (fun z => by omega)]; exact p3.2.1 i k hi hk, fun i k hi hk => by rw [f4.2 _ _ (fun z => by omega)]; exact p3.2.2 i k hi hk⟩
      have e33 : mI h4 47 33 - 1 = nI L := by
        rw [hW4.2.2.2.2.1.1]
        obtain ⟨m, hm⟩ : ∃ m, wl W = m + 1 := ⟨wl W - 1, by omega⟩
        rw [hL, hm]; exact nI_pred m
      have hb1 := hNl c
      have hb2 := cnt_le (thB W c L) k
      refine qX12_laysStates_29 _ _ hS4 ⟨fun z => absurd z (nI_ge (b := 1024) hk (by omega)), fun _ => ?_⟩
      rw [e33]
      refine m_isThere (d := d + 5) hS4 hW4 p4 (by omega) hk ⟨_, rfl, hS4, fun z => ?_, fun z => ?_⟩
      · have ht : thB W c L k = true := by
          cases hb : thB W c L k with
          | true => rfl
          | false => exact absurd (b2i_0.mpr hb) z
        have hlt : NN c + cnt (thB W c L) k < 8192 := by omega
        have v81 := vp_in_nI hlt (N := 8192) (by omega)
        have cl := nI_clamp (n := NN c + cnt (thB W c L) k) (by omega)
        rw [eN4, cl]
        refine ⟨v81, fun h5 e5 => ?_⟩
        have n5 : mI h5 47 53 = nI (NN c + cnt (thB W c L) k) := by rw [e5, mI_SI_a (by omega)]; exact eN4
        rw [n5, cl]
        refine ⟨v81, fun h6 e6 h7 e7 => ?_⟩
        have n6 : mI h6 47 53 = nI (NN c + cnt (thB W c L) k) := by rw [e6, mI_SI_a (by omega)]; exact n5
        rw [n6, nI_1] at e7
        rw [nI_1]
        have ec : cnt (thB W c L) (k + 1) = cnt (thB W c L) k + 1 := by rw [cnt_s, ht]; rfl
        refine ih4 h7 ⟨f4.tr (by rw [e7, e6, e5]; exact ((mFr2.SI (A := fun a k => a = 84 ∨ a = 85 ∨ (a = 47 ∧ k = 53)) (Or.inl rfl)).tr (mFr2.SI (Or.inr (Or.inl rfl)))).tr (mFr2.SI (Or.inr (Or.inr ⟨rfl, rfl⟩)))), by rw [e7, mI_SI_s, ec]; rfl, upN SC (NN c + cnt (thB W c L) k) c, upN SK (NN c + cnt (thB W c L) k) k, fun s hs => ?_, fun P => ?_⟩
        · rw [e7, mI_SI_a (by omega), mI_SI_a (by omega), e6, mI_SI_a (show 84 ≠ 85 by omega), e5]
          by_cases e : s = NN c + cnt (thB W c L) k
          · rw [e, upN_s, upN_s, mI_SI_s, mI_SI_s]
            exact ⟨hc, hk, rfl, rfl⟩
          · rw [upN_o e, upN_o e, mI_SI_k e, mI_SI_k e, mI_SI_a (by omega)]
            exact c1 s (by omega)
        · rw [ec, show NN c + (cnt (thB W c L) k + 1) = (NN c + cnt (thB W c L) k) + 1 by omega, cnt_s, cnt_s, upN_s, upN_s, ht, Bool.true_and]
          rw [cnt_cong (q := fun s => P (SC s) (SK s)) (NN c + cnt (thB W c L) k) (fun s hs => by rw [upN_o (by omega), upN_o (by omega)]), c2 P]
          omega
      · have ht : thB W c L k = false := b2i_0.mp z
        have ec : cnt (thB W c L) (k + 1) = cnt (thB W c L) k := by rw [cnt_s, ht]; rfl
        rw [nI_1]
        refine ih4 h4 ⟨f4, by rw [ec]; exact eN4, SC, SK, by rw [ec]; exact c1, fun P => ?_⟩
        rw [ec, c2 P, cnt_s, ht, Bool.false_and]; rfl
    · rintro h4 ⟨f4, eN4, SC, SK, c1, c2⟩
      refine qX12_laysStates_29 _ _ (f4.1.sk hS3) ⟨fun _ => ?_, fun z => absurd (by decide) z⟩
      rw [nI_1]
      have f34 : mFr2 aSt h2 h4 := (f3.wk (fun a k z => Or.inl z)).tr (f4.wk (fun a k z => Or.inr z))
      exact ih h4 ⟨f2.tr f34, by rw [hNs]; exact eN4, SC, SK, by rw [hNs]; exact c1, fun P => by rw [hNs, hPs]; exact c2 P⟩
  · rintro h2 ⟨f2, eN, SC, SK, c1, c2⟩
    have hW2 := mWo.fr f2 aSt_d hW
    have eS : NN (wn W) = stN W := by rw [hNN, hL]; rfl
    rw [eS] at eN c1 c2
    exact qX12_laysStates_7 _ (f2.1.sk hS) ⟨fun _ => K h2 f2 ⟨eN, SC, SK, c1, fun P => by rw [c2 P, hPP, hL]⟩, fun z => absurd (by rw [hW2.1.1]; exact nI_le (by omega) (by omega)) z⟩
theorem m_isChoice {i : Nat} {CH : aCc} (hS : mSk h) (hC : chM h CH) (hi : i < 6) (K : Q (some (.inl (b2i (bt CH.1 i)))) h) : mC G kX12_isChoice d b [.inr (some 47), .inl (nI i)] h Q := by
  refine qX12_isChoice _ hS (fun w1 e1 => ?_)
  rw [hC.1, askS _ (by omega)] at e1
  rw [e1]
  cases hb : bt CH.1 i with
  | true => rw [hb] at K; exact K
  | false => rw [hb] at K; exact K
theorem m_movedBy {c k i : Nat} {C : aCo} {CH : aCc} (hS : mSk h) (hc : c < 8) (hk : k < 1024) (hi : i < 6) (hL : mLa h c C) (hC : chM h CH) (ht : bt CH.1 i = true) (K : Q (some (.inl (if mvB C (CH.2 i) k = true then nI (mvT (CH.2 i) k) else -1))) h) : mC G kX12_movedBy (d + 1) b [.inr (some 47), .inl (nI c), .inl (nI k), .inl (nI i)] h Q := by
  obtain ⟨⟨g1, g2, g3⟩, o1, o2, o3⟩ := hC.2.2 i hi ht
  have v6 := vp_in_nI (n := i) (N := 6) hi (by omega)
  have ex : iI ((k % 32 : Nat) : Int) + iI (CH.2 i).1.1 = iI (tX (CH.2 i) k) := by rw [ii_add]; rfl
  have ey : iI ((k / 32 : Nat) : Int) + iI (CH.2 i).1.2 = iI (tY (CH.2 i) k) := by rw [ii_add]; rfl
  refine qX12_movedBy _ _ _ hS ?_
  rw [nI_clamp (show i < 2 ^ 31 by omega), g1, g2, L32, ii_rem (by omega) (by omega) (by omega), ii_div (by omega) (by omega) (by omega), ii_nat (k % 32), ii_nat (k / 32), ex, ey, f_cell_eq, f_grid]
  have bx : inI (tX (CH.2 i) k) := by unfold tX; exact ⟨by omega, by omega⟩
  have by0 : inI (tY (CH.2 i) k) := by unfold tY; exact ⟨by omega, by omega⟩
  rw [ii_toInt bx, ii_toInt by0]
  refine ⟨v6, v6, fun z => ?_, fun z => ?_⟩
  · have : ¬ mvB C (CH.2 i) k = true := fun t => z (mvB_t.mp t).1
    rw [if_neg this] at K; exact K
  · have tg : tG (CH.2 i) k := Classical.byContradiction z
    have exn : iI (tX (CH.2 i) k) = nI (tX (CH.2 i) k).toNat := by rw [ii_nat]; congr 1; have := tg.1; omega
    have eyn : iI (tY (CH.2 i) k) = nI (tY (CH.2 i) k).toNat := by rw [ii_nat]; congr 1; have := tg.2; omega
    rw [exn, eyn]
    refine m_isLandAt hS hc (by have := tg.1; omega) (by have := tg.2; omega) hL ⟨_, rfl, hS, fun w5 e5 => ?_⟩
    rw [e5, pk_mul, nI_add]
    cases hb : coLand C (tX (CH.2 i) k).toNat (tY (CH.2 i) k).toNat with
    | true =>
      have : ¬ mvB C (CH.2 i) k = true := fun t => by have := (mvB_t.mp t).2; rw [hb] at this; cases this
      rw [if_neg this] at K
      rw [if_neg (by decide)]; exact K
    | false =>
      rw [if_pos (mvB_t.mpr ⟨tg, hb⟩)] at K
      rw [if_pos (by decide)]; exact K
theorem mvT_x {C : aCo} {D : aDc} {k : Nat} (h : mvB C D k = true) : mvT D k < 1024 ∧ mvT D k % 32 = (tX D k).toNat ∧ mvT D k / 32 = (tY D k).toNat := by
  obtain ⟨⟨h1, h2⟩, -⟩ := mvB_t.mp h
  unfold mvT
  omega
theorem ecC_b {C : aCo} {q x y : Nat} (hx : x < 32) (hy : y < 32) : ecC C q x y ≤ 62 ∧ ecC C q x y % 2 = 0 := by
  have h1 := fcS_le C q (rm4 q x y) x y
  have h2 := rm4_31 (q := q) hx hy
  unfold ecC
  split
  · omega
  · split <;> omega
theorem m_countAt {c k i : Nat} {C : aCo} {CH : aCc} (hS : mSk h) (hc : c < 8) (hk : k < 1024) (hi : i < 6) (hCo : mCoM h c C) (ok : okRing C) (hL : mLa h c C) (hC : chM h CH) (ht : bt CH.1 i = true) (hw : coLand C (k % 32) (k / 32) = false) (K : Q (some (.inl (nI (ecC C (CH.2 i).2 (k % 32) (k / 32))))) h) : mC G kX12_countAt (d + 4) b [.inr (some 47), .inl (nI c), .inl (nI k), .inl (nI i)] h Q := by
  obtain ⟨⟨g1, g2, g3⟩, o1, o2, o3⟩ := hC.2.2 i hi ht
  refine qX12_countAt _ _ _ hS ⟨vp_in_nI hi (by omega), ?_⟩
  rw [nI_clamp (show i < 2 ^ 31 by omega), g3, L32, ii_rem (by omega) (by omega) (by omega), ii_div (by omega) (by omega) (by omega)]
  exact m_echoOf hS hc o3 (by omega) (by omega) hCo ok hL hw ⟨_, rfl, hS, K⟩
theorem m_mayBeSilent {c k i : Nat} {C : aCo} {CH : aCc} (hS : mSk h) (hc : c < 8) (hk : k < 1024) (hi : i < 6) (hCo : mCoM h c C) (ok : okRing C) (hL : mLa h c C) (hC : chM h CH) (ht : bt CH.1 i = true) (hw : coLand C (k % 32) (k / 32) = false) (K : Q (some (.inl (b2i (siC C (CH.2 i).2 (k % 32) (k / 32))))) h) : mC G kX12_mayBeSilent (d + 4) b [.inr (some 47), .inl (nI c), .inl (nI k), .inl (nI i)] h Q := by
  obtain ⟨⟨g1, g2, g3⟩, o1, o2, o3⟩ := hC.2.2 i hi ht
  refine qX12_mayBeSilent _ _ _ hS ⟨vp_in_nI hi (by omega), ?_⟩
  rw [nI_clamp (show i < 2 ^ 31 by omega), g3, L32, ii_rem (by omega) (by omega) (by omega), ii_div (by omega) (by omega) (by omega)]
  exact m_mayBeNone hS hc o3 (by omega) (by omega) hCo ok hL hw ⟨_, rfl, hS, b2i_b _, K⟩
def a86 : Nat → Nat → Prop := fun a _ => a = 86
theorem stM.fr {A : Nat → Nat → Prop} {h h' : mH} {W : aW} (f : mFr2 A h h') (h1 : ¬ A 47 53) (h2 : ∀ k, ¬ A 84 k ∧ ¬ A 85 k) (s : stM h W) : stM h' W := by
  obtain ⟨s1, SC, SK, s2, s3⟩ := s
  refine ⟨by rw [f.2 _ _ h1]; exact s1, SC, SK, fun s hs => ?_, s3⟩
  rw [f.2 _ _ (h2 s).1, f.2 _ _ (h2 s).2]; exact s2 s hs
set_option maxHeartbeats 1000000 in
theorem m_mostBy {W : aW} {CH : aCc} {i : Nat} (hS : mSk h) (hW : mWo h W) (hC : chM h CH) (hst : stM h W) (hi : i < 6) (ht : bt CH.1 i = true) (K : ∀ h', mFr2 a86 h h' → (∀ a, a < 65 → mI h' 86 a = nI (anN W (CH.2 i) a)) → Q (some (.inl (nI (nxM W (CH.2 i))))) h') : mC G kX12_mostBy (d + 5) b [.inr (some 47), .inl (nI i)] h Q := by
  have hn8 := hW.1.2.1
  have hs8 := stN_le hn8
  obtain ⟨e53, SC, SK, c1, c2⟩ := hst
  refine qX12_mostBy _ hS ?_
  refine mloop (W := fun a h1 => mW G kX12_mostBy (d + 5) b 2 [some (.inr (some 47)), some (.inl (nI i)), some (.inl (nI a)), none, none] [] h1 Q)
    (P := fun a h1 => mFr2 a86 h h1 ∧ ∀ a', a' < a → mI h1 86 a' = nI 0) 65 ?_ ?_ 0 h (by omega) ⟨mFr2.rf, fun a' z => by omega⟩
  · rintro a h1 ha ⟨f1, z1⟩ ih
    refine qX12_mostBy_2 _ _ (f1.1.sk hS) ⟨fun z => absurd z (nI_ge (b := 65) ha (by omega)), fun _ => ⟨vp_in_nI ha (by omega), fun h2 e2 => ?_⟩⟩
    rw [nI_clamp (by omega)] at e2
    rw [nI_1, e2]
    refine ih _ ⟨f1.tr (mFr2.SI rfl), fun a' ha' => ?_⟩
    by_cases e : a' = a
    · rw [e, mI_SI_s]; rfl
    · rw [mI_SI_k e]; exact z1 a' (by omega)
  · rintro h1 ⟨f1, z1⟩
    refine qX12_mostBy_2 _ _ (f1.1.sk hS) ⟨fun _ => ?_, fun z => absurd (by decide) z⟩
    -- state by state
    refine mloop (W := fun s h2 => mW G kX12_mostBy (d + 5) b 23 [some (.inr (some 47)), some (.inl (nI i)), some (.inl (nI s)), none, none] [] h2 Q)
      (P := fun s h2 => mFr2 a86 h h2 ∧ ∀ a, a < 65 → mI h2 86 a = nI (cnt (fun s => aaB (wC W (SC s)) (CH.2 i) (SK s) a) s)) (stN W) ?_ ?_ 0 h1 (by omega) ⟨f1, fun a ha => z1 a ha⟩
    · rintro s h2 hs ⟨f2, z2⟩ ih
      have hS2 := f2.1.sk hS
      have lo : ∀ a k, a ≠ 86 → mI h2 a k = mI h a k := fun a k q => f2.2 _ _ q
      have hW2 : mWo h2 W := mWo.fr f2 (fun a k z q => by unfold dM at z; unfold a86 at q; omega) hW
      have hC2 : chM h2 CH := hC.fr f2 (fun z => by unfold a86 at z; omega) (fun a k q1 q2 z => by unfold a86 at z; omega)
      obtain ⟨p1, p2, p3, p4⟩ := c1 s hs
      obtain ⟨hCo, okr, hL⟩ := hW2.1.2.2 (SC s) p1
      have vs := vp_in_nI (n := s) (N := 8192) (by omega) (by omega)
      have cs := nI_clamp (n := s) (by omega)
      have go : ∀ h3, mFr2 a86 h2 h3 → (∀ a, a < 65 → mI h3 86 a = mI h2 86 a + b2i (aaB (wC W (SC s)) (CH.2 i) (SK s) a)) → mW G kX12_mostBy (d + 5) b 23 [some (.inr (some 47)), some (.inl (nI i)), some (.inl (nI (s + 1))), none, none] [] h3 Q := by
        intro h3 f3 c3
        refine ih h3 ⟨f2.tr f3, fun a ha => ?_⟩
        rw [c3 a ha, z2 a ha, cnt_s]
        cases hb : aaB (wC W (SC s)) (CH.2 i) (SK s) a with
        | true => rw [show b2i true = nI 1 from rfl, nI_add]; rfl
        | false => rw [show b2i false = nI 0 from rfl, nI_add]; rfl
      refine qX12_mostBy_23 _ _ hS2 ⟨fun z => absurd z (by rw [lo _ _ (by omega), e53]; exact nI_ge hs (by omega)), fun _ => ⟨vs, vs, ?_⟩⟩
      rw [cs, lo 84 _ (by omega), lo 85 _ (by omega), p3, p4, nI_1]
      refine m_movedBy (d := d + 3) hS2 (by omega) p2 hi hL hC2 ht ⟨_, rfl, hS2, fun z => ⟨vs, ?_⟩, fun z => ?_⟩
      · have hmv : mvB (wC W (SC s)) (CH.2 i) (SK s) = true := by
          apply Classical.byContradiction; intro t
          rw [if_neg t] at z; exact z rfl
        obtain ⟨t1, t2, t3⟩ := mvT_x hmv
        have wat := (mvB_t.mp hmv).2
        have tg := (mvB_t.mp hmv).1
        rw [if_pos hmv, lo 84 _ (by omega), p3]
        have eb := ecC_b (C := wC W (SC s)) (q := (CH.2 i).2) (x := (tX (CH.2 i) (SK s)).toNat) (y := (tY (CH.2 i) (SK s)).toNat) (by have := tg.1; omega) (by have := tg.2; omega)
        have aw : ∀ a, aaB (wC W (SC s)) (CH.2 i) (SK s) a = awB (wC W (SC s)) (CH.2 i).2 (tX (CH.2 i) (SK s)).toNat (tY (CH.2 i) (SK s)).toNat a := fun a => by unfold aaB; rw [hmv, Bool.true_and]
        refine m_countAt (d := d) hS2 (by omega) t1 hi hCo okr hL hC2 ht (by rw [t2, t3]; exact wat) ⟨_, rfl, hS2, fun z0 => ⟨vs, ?_⟩, fun z0 => ?_⟩
        · rw [lo 84 _ (by omega), p3]
          rw [t2, t3, show (0 : Int32) = nI 0 from rfl, nI_leI (by omega) (by omega)] at z0
          refine m_mayBeSilent (d := d) hS2 (by omega) t1 hi hCo okr hL hC2 ht (by rw [t2, t3]; exact wat) ⟨_, rfl, hS2, fun zs => ?_, fun zs => ⟨vp_in_nI (n := 0) (N := 65) (by omega) (by omega), vp_in_nI (n := 0) (N := 65) (by omega) (by omega), fun h13 e13 => ?_⟩⟩
          · rw [t2, t3] at zs
            refine go h2 mFr2.rf (fun a ha => ?_)
            have : aaB (wC W (SC s)) (CH.2 i) (SK s) a = false := by
              rw [aw]; unfold awB
              by_cases a0 : a = 0
              · rw [if_pos a0]; exact b2i_0.mp zs
              · rw [if_neg a0, decide_eq_false (by omega)]
            rw [this, show b2i false = 0 from rfl]; simp
          · rw [t2, t3] at zs
            rw [e13]
            refine go _ (mFr2.SI rfl) (fun a ha => ?_)
            have hsi : siC (wC W (SC s)) (CH.2 i).2 (tX (CH.2 i) (SK s)).toNat (tY (CH.2 i) (SK s)).toNat = true := by
              cases hb : siC (wC W (SC s)) (CH.2 i).2 (tX (CH.2 i) (SK s)).toNat (tY (CH.2 i) (SK s)).toNat with
              | true => rfl
              | false => exact absurd (b2i_0.mpr hb) zs
            rw [aw]; unfold awB
            by_cases a0 : a = 0
            · rw [a0, mI_SI_s, if_pos rfl, hsi]; rfl
            · rw [mI_SI_k a0, if_neg a0, decide_eq_false (by omega), show b2i false = 0 from rfl]; simp
        · rw [t2, t3, show (0 : Int32) = nI 0 from rfl, nI_leI (by omega) (by omega)] at z0
          rw [t2, t3]
          obtain ⟨e, he⟩ : ∃ e, e = ecC (wC W (SC s)) (CH.2 i).2 (tX (CH.2 i) (SK s)).toNat (tY (CH.2 i) (SK s)).toNat := ⟨_, rfl⟩
          rw [← he] at z0 eb ⊢
          have ve := vp_in_nI (n := e) (N := 65) (by omega) (by omega)
          rw [nI_clamp (show e < 2 ^ 31 by omega)]
          refine ⟨ve, ve, fun h17 e17 => ⟨vs, ?_⟩⟩
          have f17 : mFr2 a86 h2 h17 := by rw [e17]; exact mFr2.SI rfl
          have hS17 := f17.1.sk hS2
          have hW17 : mWo h17 W := mWo.fr f17 (fun a k z q => by unfold dM at z; unfold a86 at q; omega) hW2
          have hC17 : chM h17 CH := hC2.fr f17 (fun z => by unfold a86 at z; omega) (fun a k q1 q2 z => by unfold a86 at z; omega)
          obtain ⟨hCo', -, hL'⟩ := hW17.1.2.2 (SC s) p1
          rw [f17.2 84 _ (fun z => by unfold a86 at z; omega), lo 84 _ (by omega), p3]
          refine m_mayBeSilent (d := d) hS17 (by omega) t1 hi hCo' okr hL' hC17 ht (by rw [t2, t3]; exact wat) ⟨_, rfl, hS17, fun zs => ?_, fun zs => ⟨vp_in_nI (n := 0) (N := 65) (by omega) (by omega), vp_in_nI (n := 0) (N := 65) (by omega) (by omega), fun h23 e23 => ?_⟩⟩
          · rw [t2, t3] at zs
            refine go h17 f17 (fun a ha => ?_)
            rw [aw, e17]; unfold awB
            by_cases a0 : a = 0
            · rw [if_pos a0, b2i_0.mp zs, mI_SI_k (by omega), show b2i false = 0 from rfl]; simp
            · rw [if_neg a0, ← he]
              by_cases ea : a = e
              · rw [ea, mI_SI_s, decide_eq_true rfl]; rfl
              · rw [mI_SI_k ea, decide_eq_false (by omega), show b2i false = 0 from rfl]; simp
          · rw [t2, t3] at zs
            have hsi : siC (wC W (SC s)) (CH.2 i).2 (tX (CH.2 i) (SK s)).toNat (tY (CH.2 i) (SK s)).toNat = true := by
              cases hb : siC (wC W (SC s)) (CH.2 i).2 (tX (CH.2 i) (SK s)).toNat (tY (CH.2 i) (SK s)).toNat with
              | true => rfl
              | false => exact absurd (b2i_0.mpr hb) zs
            refine go h23 (f17.tr (by rw [e23]; exact mFr2.SI rfl)) (fun a ha => ?_)
            rw [aw, e23]; unfold awB
            by_cases a0 : a = 0
            · rw [a0, mI_SI_s, if_pos rfl, hsi, e17, mI_SI_k (by omega)]; rfl
            · rw [mI_SI_k a0, if_neg a0, ← he, e17]
              by_cases ea : a = e
              · rw [ea, mI_SI_s, decide_eq_true rfl]; rfl
              · rw [mI_SI_k ea, decide_eq_false (by omega), show b2i false = 0 from rfl]; simp
      · have hmv : ¬ mvB (wC W (SC s)) (CH.2 i) (SK s) = true := fun t => by
          rw [if_pos t] at z
          exact absurd z (nI_nmb (by have := (mvT_x t).1; omega))
        refine go h2 mFr2.rf (fun a ha => ?_)
        have : aaB (wC W (SC s)) (CH.2 i) (SK s) a = false := by
          unfold aaB
          have : mvB (wC W (SC s)) (CH.2 i) (SK s) = false := by simpa using hmv
          rw [this, Bool.false_and]
        rw [this, show b2i false = 0 from rfl]; simp
    · rintro h2 ⟨f2, z2⟩
      have hS2 := f2.1.sk hS
      have e86 : ∀ a, a < 65 → mI h2 86 a = nI (anN W (CH.2 i) a) := fun a ha => by
        rw [z2 a ha, c2 (fun c k => aaB (wC W c) (CH.2 i) k a)]; rfl
      refine qX12_mostBy_23 _ _ hS2 ⟨fun _ => ?_, fun z => absurd (by rw [f2.2 _ _ (fun z => by unfold a86 at z; omega), e53]; exact nI_le (by omega) (by omega)) z⟩
      have hle := fun a => anN_le hn8 (CH.2 i) a
      refine mloop (W := fun a h3 => mW G kX12_mostBy (d + 5) b 131 [some (.inr (some 47)), none, some (.inl (nI (mxN (anN W (CH.2 i)) a))), some (.inl (nI a)), none] [] h3 Q) (P := fun a h3 => h3 = h2) 65 ?_ ?_ 0 h2 (by omega) rfl
      · rintro a h3 ha rfl ih
        have hm := mxN_ub (f := anN W (CH.2 i)) (M := 8192) a (fun i _ => hle i)
        have h1 := hle a
        have va := vp_in_nI (n := a) (N := 65) ha (by omega)
        have ih2 := ih h3 rfl
        rw [mxN_s] at ih2
        refine qX12_mostBy_131 _ _ hS2 ⟨fun z => absurd z (nI_ge (b := 65) ha (by omega)), fun _ => ⟨va, ?_⟩⟩
        rw [nI_clamp (show a < 2 ^ 31 by omega), e86 a ha, nI_leI (by omega) (by omega), nI_1]
        refine ⟨fun z => ?_, fun z => ⟨va, ?_⟩⟩
        · rw [Nat.max_eq_left z] at ih2; exact ih2
        · rw [Nat.max_eq_right (by omega)] at ih2; exact ih2
      · rintro h3 rfl
        exact qX12_mostBy_131 _ _ hS2 ⟨fun _ => K h3 f2 e86, fun z => absurd (by decide) z⟩
theorem m_worstAnswer {f : Nat → Nat} {m : Nat} (hS : mSk h) (hf : ∀ a, a < 65 → mI h 86 a = nI (f a)) (hb : ∀ a, f a ≤ 8192) (hm : m ≤ 8192) (K : Q (some (.inl (wsF f m 65 0))) h) : mC G kX12_worstAnswer d b [.inr (some 47), .inl (nI m)] h Q := by
  refine qX12_worstAnswer _ hS ?_
  have lp : ∀ (r a : Nat), a + r = 65 → Q (some (.inl (wsF f m r a))) h → mW G kX12_worstAnswer d b 2 [some (.inr (some 47)), some (.inl (nI m)), some (.inl (nI a))] [] h Q := by
    intro r
    induction r with
    | zero =>
      intro a ha K
      exact qX12_worstAnswer_2 _ _ hS ⟨fun _ => K, fun z => absurd (nI_le (a := 65) (by omega) (by omega)) z⟩
    | succ r ih =>
      intro a ha K
      rw [wsF_s] at K
      have h1 := hb a
      have i0 : nI m ≤ 0 ↔ m = 0 := by rw [show (0 : Int32) = nI 0 from rfl, nI_leI (by omega) (by omega)]; omega
      refine qX12_worstAnswer_2 _ _ hS ⟨fun z => absurd z (nI_ge (b := 65) (by omega) (by omega)), fun _ => ?_⟩
      rw [i0, nI_clamp (show a < 2 ^ 31 by omega), hf a (by omega), nI_eq (by omega) (by omega), nI_1]
      refine ⟨fun z => ih (a + 1) (by omega) ?_, fun z => ⟨vp_in_nI (by omega) (by omega), fun z2 => ih (a + 1) (by omega) ?_, fun z2 => ?_⟩⟩
      · rw [if_neg (by omega)] at K; exact K
      · rw [if_neg (fun t => z2 t.2)] at K; exact K
      · rw [if_pos ⟨by omega, z2⟩] at K; exact K
  exact lp 65 0 (by omega) K
theorem m_next (v1 : Int32) {W : aW} {CH : aCc} (hS : mSk h) (hW : mWo h W) (hC : chM h CH) (K1 : f_X11_within v1 0 3 = 0 → Q (some (.inl (-1))) h) (K2 : ¬ f_X11_within v1 0 3 = 0 → (CH.1 = 0 ∨ wl W = 0) → Q (some (.inl (-2))) h)
    (K3 : ∀ w, w ≤ 3 → v1 = nI w → CH.1 ≠ 0 → 0 < wl W → ∀ h', mFr2 (fun a k => aSt a k ∨ a86 a k) h h' → (stN W = 0 → Q (some (.inl (-2))) h') ∧ (0 < stN W → Q (some (.inl (nxA W CH w))) h')) : mC G kX12_next (d + 9) b [.inr (some 47), .inl v1] h Q := by
  have hn8 := hW.1.2.1
  have hl12 := hW.2.2.2.2.1.2.1
  have hs8 := stN_le hn8
  refine qX12_next _ hS ?_
  rw [f_in_eq]
  refine ⟨fun z1 => qX12_canChoose hS ?_, K1⟩
  rw [hC.1, hW.2.2.2.2.1.1]
  refine ⟨fun z => ⟨_, rfl, hS, fun q => absurd rfl q, fun _ => K2 z1 (Or.inl z)⟩, fun z => ⟨fun z2 => ?_, fun z2 => ⟨_, rfl, hS, fun q => absurd rfl q, fun _ => K2 z1 (Or.inr ?_)⟩⟩⟩
  · have h0 : 0 < wl W := Nat.pos_of_ne_zero (fun e => z2 (by rw [e]; rfl))
    obtain ⟨w, hw, ew⟩ := wi_ex (m := 3) (by omega) z1
    have K := K3 w hw ew z h0
    rw [ew]
    refine m_laysStates hS hW h0 (fun h1 f1 s1 => ⟨rfl, f1.1.sk hS, fun w2 e2 => ⟨_, rfl, f1.1.sk hS, fun q => ?_, fun q => ?_⟩⟩)
    · have hS1 := f1.1.sk hS
      have hW1 := mWo.fr f1 aSt_d hW
      have hC1 : chM h1 CH := hC.fr f1 (fun z => by unfold aSt aFo at z; omega) (fun a k q1 q2 z => by unfold aSt aFo at z; omega)
      have hpos : 0 < stN W := by
        apply Classical.byContradiction; intro t
        have : stN W = 0 := by omega
        rw [s1.1, this, if_pos (by decide)] at e2
        exact q e2
      obtain ⟨st0, hst0⟩ : ∃ st0 : Nat → Option Nat, st0 = nxO W CH := ⟨_, rfl⟩
      refine mloop (W := fun i h2 => mW G kX12_next (d + 9) b 34 [some (.inr (some 47)), some (.inl (nI w)), some (.inl (oI (nxO W CH i) (-1) nI)), some (.inl (oI (nxO W CH i) 1000000000 (fun j => nI (nxM W (CH.2 j))))), some (.inl (oI (nxO W CH i) (-2) (fun j => wsF (anN W (CH.2 j)) (nxM W (CH.2 j)) 65 0))), some (.inl (nI i)), none] [] h2 Q)
        (P := fun i h2 => mFr2 a86 h1 h2) 6 ?_ ?_ 0 h1 (by omega) mFr2.rf
      · rintro i h2 hi f2 ih
        have hS2 := f2.1.sk hS1
        have hW2 : mWo h2 W := mWo.fr f2 (fun a k z q => by unfold dM at z; unfold a86 at q; omega) hW1
        have hC2 : chM h2 CH := hC1.fr f2 (fun z => by unfold a86 at z; omega) (fun a k q1 q2 z => by unfold a86 at z; omega)
        have s2 : stM h2 W := s1.fr f2 (fun z => by unfold a86 at z; omega) (fun k => ⟨fun z => by unfold a86 at z; omega, fun z => by unfold a86 at z; omega⟩)
        have hM : ∀ D, nxM W D ≤ 8192 := fun D => mxN_ub 65 (fun a _ => anN_le hn8 D a)
        refine qX12_next_34 _ _ _ _ _ hS2 ⟨fun z => absurd z (nI_ge (b := 6) hi (by omega)), fun _ => m_isChoice hS2 hC2 hi ⟨_, rfl, hS2, fun zc => ?_, fun zc => ?_⟩⟩
        · have hct : bt CH.1 i = true := by
            cases hb : bt CH.1 i with
            | true => rfl
            | false => exact absurd (b2i_0.mpr hb) zc
          refine m_mostBy (d := d + 3) hS2 hW2 hC2 s2 hi hct (fun h3 f3 e3 => ⟨_, rfl, f3.1.sk hS2, fun zl => ?_, fun zl => ?_⟩)
          · have hS3 := f3.1.sk hS2
            refine m_worstAnswer hS3 e3 (fun a => anN_le hn8 _ a) (hM _) ⟨_, rfl, hS3, ?_⟩
            rw [nI_1]
            have e : nxO W CH (i + 1) = some i := by
              cases ho : nxO W CH i with
              | none => exact bsF_0 hct ho
              | some j =>
                have : nxM W (CH.2 i) < nxM W (CH.2 j) := by
                  rw [ho] at zl
                  have zl' : nI (nxM W (CH.2 i)) < nI (nxM W (CH.2 j)) := zl
                  rw [nI_ltI (by have := hM (CH.2 i); omega) (by have := hM (CH.2 j); omega)] at zl'
                  exact zl'
                exact (bsF_s hct ho).trans (if_pos this)
            have ih2 := ih h3 (f2.tr f3)
            simp only [e, oI_s] at ih2
            exact ih2
          · rw [nI_1]
            have e : nxO W CH (i + 1) = nxO W CH i := by
              cases ho : nxO W CH i with
              | none =>
                rw [ho] at zl
                exact absurd (nI_lt (b := 1000000000) (by have := hM (CH.2 i); omega) (by omega)) zl
              | some j =>
                have : ¬ nxM W (CH.2 i) < nxM W (CH.2 j) := fun t => by
                  rw [ho] at zl
                  exact zl (nI_lt t (by have := hM (CH.2 j); omega))
                exact (bsF_s hct ho).trans (if_neg this)
            have ih2 := ih h3 (f2.tr f3)
            rw [e] at ih2
            exact ih2
        · have hcf := b2i_0.mp zc
          rw [nI_1]
          have e : nxO W CH (i + 1) = nxO W CH i := bsF_n hcf
          have ih2 := ih h2 f2
          rw [e] at ih2
          exact ih2
      · rintro h2 f2
        have K4 := (K h2 ((f1.wk (fun a k z => Or.inl z)).tr (f2.wk (fun a k z => Or.inr z)))).2 hpos
        unfold nxA at K4
        have w0 : nI w = 0 ↔ w = 0 := nI_eq (b := 0) (by omega) (by omega)
        have w1 : nI w = 1 ↔ w = 1 := nI_eq (b := 1) (by omega) (by omega)
        have w2' : nI w = 2 ↔ w = 2 := nI_eq (b := 2) (by omega) (by omega)
        refine qX12_next_34 _ _ _ _ _ (f2.1.sk hS1) ⟨fun _ => ?_, fun z => absurd (by decide) z⟩
        rw [w0, w1, w2', f2.2 _ _ (fun z => by unfold a86 at z; omega), s1.1]
        refine ⟨fun q0 => ⟨fun q1 => ⟨fun q2 => ?_, fun q2 => ?_⟩, fun q1 => ?_⟩, fun q0 => ?_⟩
        · rw [if_neg q0, if_neg q1, if_neg q2] at K4; exact K4
        · rw [if_neg q0, if_neg q1, if_pos q2] at K4; exact K4
        · rw [if_neg q0, if_pos q1] at K4; exact K4
        · rw [if_pos q0] at K4; exact K4
    · have hz : stN W = 0 := by
        apply Classical.byContradiction; intro t
        rw [s1.1, if_neg (nI_nle (by omega) (by omega))] at e2
        rw [q] at e2; exact absurd e2 (by decide)
      exact (K h1 (f1.wk (fun a k z => Or.inl z))).1 hz
  · exact (nI_eq (b := 0) (by omega) (by omega)).mp z2
end
