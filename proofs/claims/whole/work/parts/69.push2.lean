/-! push -/
def okPu (W : aW) (v1 v2 v3 : Int32) (c s : Nat) : Prop := (c < wn W ∧ v1 = nI c) ∧ (s < cN (wC W c) ∧ v2 = nI s) ∧ (-9 ≤ v3.toInt ∧ v3.toInt ≤ 9) ∧ v3 ≠ 0 ∧ wn W < 8
theorem puX_b {C : aCo} {s i : Nat} {e : Int} (h : cX C i ≤ 32) (he : -9 ≤ e ∧ e ≤ 9) : -9 ≤ puX C s e i ∧ puX C s e i ≤ 41 := by
  unfold puX; split <;> omega
theorem puY_b {C : aCo} {s i : Nat} {e : Int} (h : cY C i ≤ 32) (he : -9 ≤ e ∧ e ≤ 9) : -9 ≤ puY C s e i ∧ puY C s e i ≤ 41 := by
  unfold puY; split <;> omega
section
variable {G : mG} {d : Nat} {b : Nat × Nat} {b1 b2 : Nat} {h : mH} {Q : Option mV → mH → Prop}
theorem m_isSide2 {c i n : Nat} {x x' y y' : Int} (hS : mSk h) (hc : c < 8) (hi : i < n) (hn : n ≤ 16) (e0 : mI h 48 c = nI n) (ex : mI h 49 (16 * c + i) = iI x) (ex' : mI h 49 (16 * c + nxt n i) = iI x') (ey : mI h 50 (16 * c + i) = iI y) (ey' : mI h 50 (16 * c + nxt n i) = iI y') (bx : (-9 ≤ x ∧ x ≤ 41) ∧ (-9 ≤ x' ∧ x' ≤ 41) ∧ (-9 ≤ y ∧ y ≤ 41) ∧ (-9 ≤ y' ∧ y' ≤ 41))
    (K : Q (some (.inl (b2i (sdZ i x x' y y')))) h) : mC G kX12_isSide (d + 1) b [.inr (some 47), .inl (nI c), .inl (nI i)] h Q := by
  have hnx := nxt_lt hi
  refine qX12_isSide _ _ hS ?_
  refine qX12_next0 _ _ hS ⟨vp_in_nI hc (by omega), fun w hw => ?_⟩
  rw [nI_clamp (by omega), e0, nI_1] at hw
  have he : nI (i + 1) = nI n ↔ i + 1 = n := nI_eq (by omega) (by omega)
  have hw2 : w = nI (nxt n i) := by
    rw [hw]; unfold nxt
    by_cases hx : i + 1 = n
    · rw [if_neg (fun z => z (he.mpr hx)), if_pos hx]; rfl
    · rw [if_pos (fun z => hx (he.mp z)), if_neg hx]
  rw [hw2, L16, pk_mul, nI_add, nI_add, rem2_n (by omega)]
  refine ⟨_, rfl, hS, ?_⟩
  rw [nI_clamp (by omega), nI_clamp (by omega), ex, ex', ey, ey']
  have v1 : vp_in (nI (16 * c + i)) 128 := vp_in_nI (by omega) (by omega)
  have v2 : vp_in (nI (16 * c + nxt n i)) 128 := vp_in_nI (by omega) (by omega)
  have q1 : iI x = iI x' ↔ x = x' := ii_eq ⟨by omega, by omega⟩ ⟨by omega, by omega⟩
  have q2 : iI y = iI y' ↔ y = y' := ii_eq ⟨by omega, by omega⟩ ⟨by omega, by omega⟩
  unfold sdZ at K
  rcases (show i % 2 = 0 ∨ i % 2 = 1 by omega) with hp | hp
  · rw [hp]
    rw [if_pos hp] at K
    refine ⟨fun z => absurd rfl z, fun _ => ⟨v1, v2, fun z => ?_, fun z => ⟨v1, v2, fun w7 e7 => ?_⟩⟩⟩
    · rw [decide_eq_false (fun q => z (q2.mpr q))] at K
      exact K
    · rw [decide_eq_true (q2.mp z)] at K
      by_cases hx : x = x'
      · rw [if_pos (q1.mpr hx)] at e7
        rw [decide_eq_true hx] at K
        rw [e7]; exact K
      · rw [if_neg (fun q => hx (q1.mp q))] at e7
        rw [decide_eq_false hx] at K
        rw [e7]; exact K
  · rw [hp]
    rw [if_neg (by omega)] at K
    refine ⟨fun _ => ⟨v1, v2, fun z => ?_, fun z => ⟨v1, v2, fun w7 e7 => ?_⟩⟩, fun z => absurd z (by decide)⟩
    · rw [decide_eq_false (fun q => z (q1.mpr q))] at K
      exact K
    · rw [decide_eq_true (q1.mp z)] at K
      by_cases hy : y = y'
      · rw [if_pos (q2.mpr hy)] at e7
        rw [decide_eq_true hy] at K
        rw [e7]; exact K
      · rw [if_neg (fun q => hy (q2.mp q))] at e7
        rw [decide_eq_false hy] at K
        rw [e7]; exact K
set_option maxHeartbeats 2000000 in
theorem m_push (v1 v2 v3 : Int32) {W : aW} (hS : mSk h) (hW : mWo h W) (K1 : (∀ c s, ¬ okPu W v1 v2 v3 c s) → Q (some (.inl (-1))) h)
    (K2 : ∀ c s, okPu W v1 v2 v3 c s → ¬ puOk (wC W c) s v3.toInt → ∀ h', mFr2 (fun x k => (48 ≤ x ∧ x ≤ 52) ∨ (x = 47 ∧ k = 0)) h h' → mWo h' W → Q (some (.inl (-2))) h')
    (K3 : ∀ c s, okPu W v1 v2 v3 c s → puOk (wC W c) s v3.toInt → ∀ h', mFr2 (fun x k => (48 ≤ x ∧ x ≤ 52) ∨ (x = 47 ∧ k = 0)) h h' → mWo h' (wAdd W (puC (wC W c) s v3.toInt)) → Q (some (.inl (nI (wn W)))) h') : mC G kX12_push (d + 2) b [.inr (some 47), .inl v1, .inl v2, .inl v3] h Q := by
  have hn8 := hW.1.2.1
  have e47 := hW.1.1
  refine qX12_push v1 v2 v3 hS (m_isCoast v1 hS hW.1 (fun t => ⟨_, rfl, hS, fun _ => K1 (fun c s u => t ?_), fun z => absurd rfl z⟩) (fun c hc ec => ⟨_, rfl, hS, fun z => absurd z (by decide), fun _ => ?_⟩))
  · rw [u.1.2, nI_toI (by have := u.1.1; omega)]
    have := u.1.1; omega
  have hne : ∀ c' s, okPu W v1 v2 v3 c' s → c' = c := fun c' s u => by
    have := u.1.2
    rw [ec, nI_eq (by omega) (by have := u.1.1; omega)] at this
    exact this.symm
  obtain ⟨hC, okr, la⟩ := hW.1.2.2 c hc
  obtain ⟨⟨hn4, hn16, hn2⟩, hCi⟩ := okr
  have okr : okRing (wC W c) := ⟨⟨hn4, hn16, hn2⟩, hCi⟩
  rw [ec, nI_clamp (show c < 2 ^ 31 by omega), hC.1, f_in_eq, e47, L8, nI_eq (a := wn W) (b := 8) (by omega) (by omega), nI_clamp (show wn W < 2 ^ 31 by omega)]
  have v8 := vp_in_nI (n := c) (N := 8) (by omega) (by omega)
  refine ⟨fun z => K1 (fun c' s u => ?_), fun z0 => ⟨v8, fun z => K1 (fun c' s u => ?_), fun zn => ⟨fun z => K1 (fun c' s u => ?_), fun z9 => ⟨fun z => K1 (fun c' s u => u.2.2.2.1 z), fun zz => ⟨fun w8 => ?_, fun z => K1 (fun c' s u => ?_)⟩⟩⟩⟩⟩
  · have := hne c' s u
    subst this
    have h1 := u.2.1.1
    rw [u.2.1.2] at z
    exact absurd z (nI_pos (by omega))
  · have := hne c' s u
    subst this
    have h1 := u.2.1.1
    rw [u.2.1.2] at z
    exact absurd z (nI_ge h1 (by omega))
  · have h1 := f_wiZ (v := v3) (-9) 9 ⟨by omega, by omega⟩ ⟨by omega, by omega⟩
    exact absurd u.2.2.1 (h1.mp z)
  · have hlt : wn W < 8 := by omega
    obtain ⟨s, hs31, es⟩ := nI_of z0
    have hs : s < cN (wC W c) := by
      rw [es, nI_leI (by omega) (by omega)] at zn
      omega
    have h9 := wi9 z9
    have okp : okPu W v1 v2 v3 c s := ⟨⟨hc, ec⟩, ⟨hs, es⟩, h9, zz, hlt⟩
    have ev3 : v3 = iI v3.toInt := ii_of v3
    obtain ⟨e, he⟩ : ∃ e, e = v3.toInt := ⟨_, rfl⟩
    have K2' := K2 c s okp
    have K3' := K3 c s okp
    rw [← he] at h9 ev3 K2' K3'
    refine ⟨v8, vp_in_nI (by omega) (by omega), fun h6 e6 => ?_⟩
    rw [es]
    obtain ⟨C, hCe⟩ : ∃ C, C = wC W c := ⟨_, rfl⟩
    rw [← hCe] at hC okr hn4 hn16 hn2 hs hCi K2' K3' e6
    have f6 : mFr2 (aRng (wn W)) h h6 := by rw [e6]; exact mFr2.SI (Or.inl ⟨rfl, rfl⟩)
    -- what a heap between keeps
    have keep : ∀ h2, mFr2 (aRng (wn W)) h h2 → mWo h2 W := fun h2 f2 => by
      obtain ⟨w1, w2, w3, w4, w5, w6, w7, w8⟩ := hW
      refine ⟨⟨?_, w1.2.1, fun c hc => ?_⟩, soM.fr f2 (fun a k q1 q2 z => by unfold aRng at z; omega) (fun z => by unfold aRng at z; omega) w2, lwM.fr f2 (fun a k q z => by unfold aRng at z; omega) w3, w4, lgM.fr f2 (fun a k q1 q2 z => by unfold aRng at z; omega) (fun z => by unfold aRng at z; omega) w5, ?_, ?_, w8⟩
      · rw [f2.2 _ _ (fun z => by unfold aRng at z; omega)]; exact w1.1
      · obtain ⟨⟨c1, c2⟩, ok, la⟩ := w1.2.2 c hc
        have := ok.1.2.1
        refine ⟨⟨?_, fun i hi => ?_⟩, ok, mLa.fr f2 (fun k z => by unfold aRng at z; omega) la⟩
        · rw [f2.2 _ _ (fun z => by unfold aRng at z; omega)]; exact c1
        · rw [f2.2 _ _ (fun z => by unfold aRng at z; omega), f2.2 _ _ (fun z => by unfold aRng at z; omega), f2.2 _ _ (fun z => by unfold aRng at z; omega)]; exact c2 i hi
      · obtain ⟨⟨b1, b2, b3, b4⟩, o⟩ := w6
        exact ⟨⟨by rw [f2.2 _ _ (fun z => by unfold aRng at z; omega)]; exact b1, by rw [f2.2 _ _ (fun z => by unfold aRng at z; omega)]; exact b2, by rw [f2.2 _ _ (fun z => by unfold aRng at z; omega)]; exact b3, by rw [f2.2 _ _ (fun z => by unfold aRng at z; omega)]; exact b4⟩, o⟩
      · rw [f2.2 _ _ (fun z => by unfold aRng at z; omega)]; exact w7
    -- the second loop: are all as they must be
    have chk : ∀ h7, mFr2 (aRng (wn W)) h h7 → mI h7 48 (wn W) = nI (cN C) → (∀ i, i < cN C → mI h7 49 (16 * wn W + i) = iI (puX C s e i) ∧ mI h7 50 (16 * wn W + i) = iI (puY C s e i) ∧ mI h7 51 (16 * wn W + i) = nI (cS C i)) → mW G kX12_push (d + 2) b 229 [some (.inr (some 47)), none, none, none, some (.inl (nI (wn W))), some (.inl 0), none] [] h7 Q := by
      intro h7 f7 e48 c7
      have hS7 := f7.1.sk hS
      have vn8 := vp_in_nI (n := wn W) (N := 8) hlt (by omega)
      have f7' : mFr2 (fun x k => (48 ≤ x ∧ x ≤ 52) ∨ (x = 47 ∧ k = 0)) h h7 := f7.wk (fun x k z => by unfold aRng at z; omega)
      have lp : ∀ (r i : Nat), i + r = cN C → (∀ j, j < i → puO C s e j) → mW G kX12_push (d + 2) b 229 [some (.inr (some 47)), none, none, none, some (.inl (nI (wn W))), some (.inl (nI i)), none] [] h7 Q := by
        intro r
        induction r with
        | zero =>
          intro i hi hj
          refine qX12_push_229 _ _ hS7 ⟨vn8, fun _ => ?_, fun z => absurd (by rw [nI_clamp (by omega), e48]; exact nI_le (by omega) (by omega)) z⟩
          have pk : puOk C s e := fun j hj' => hj j (by omega)
          have okN := puC_ok okr pk
          have hCN : mCoM h7 (wn W) (puC C s e) := ⟨e48, fun i hi => by
            have hi' : i < cN C := hi
            obtain ⟨a1, a2, a3⟩ := c7 i hi'
            obtain ⟨o1, o2, -⟩ := pk i hi'
            refine ⟨?_, ?_, a3⟩
            · rw [a1, ii_nat]; congr 1
              show puX C s e i = ((puX C s e i).toNat : Int)
              omega
            · rw [a2, ii_nat]; congr 1
              show puY C s e i = ((puY C s e i).toNat : Int)
              omega⟩
          refine m_laysLand hS7 hlt hCN okN.sm (fun h4 f4 la4 => ⟨rfl, f4.1.sk hS7, fun h5 e5 => ?_⟩)
          have hW7 := keep h7 f7
          have e4 : mI h4 47 0 = nI (wn W) := by rw [f4.2 _ _ (fun z => by unfold aIsl at z; omega)]; exact hW7.1.1
          rw [e4, nI_1] at e5
          have f5 : mFr2 (fun x k => aIsl (wn W) x k ∨ (x = 47 ∧ k = 0)) h7 h5 := (f4.wk (fun x k z => Or.inl z)).tr (by rw [e5]; exact mFr2.SI (Or.inr ⟨rfl, rfl⟩))
          refine K3' pk h5 (f7'.tr (f5.wk (fun x k z => by unfold aIsl at z; omega))) ?_
          obtain ⟨w1, w2, w3, w4, w5, w6, w7, w8⟩ := hW7
          refine ⟨⟨by rw [e5, mI_SI_s]; rfl, by show wn W + 1 ≤ 8; omega, fun c hc => ?_⟩, soM.fr f5 (fun a k q1 q2 z => by unfold aIsl at z; omega) (fun z => by unfold aIsl at z; omega) w2, lwM.fr f5 (fun a k q z => by unfold aIsl at z; omega) w3, w4, lgM.fr f5 (fun a k q1 q2 z => by unfold aIsl at z; omega) (fun z => by unfold aIsl at z; omega) w5, ?_, ?_, w8⟩
          · by_cases e : c = wn W
            · subst e
              rw [wAdd_n]
              refine ⟨mCoM.fr f5 (fun a k q1 q2 z => by unfold aIsl at z; omega) hCN, okN, fun k hk => ?_⟩
              rw [e5, mI_SI_a (by omega)]; exact la4 k hk
            · have hc' : c < wn W := by have : c < wn W + 1 := hc; omega
              rw [wAdd_C e]
              obtain ⟨c1, c2, c3⟩ := w1.2.2 c hc'
              refine ⟨mCoM.fr f5 (fun a k q1 q2 z => by unfold aIsl at z; omega) c1, c2, fun k hk => ?_⟩
              rw [f5.2 _ _ (fun z => by unfold aIsl at z; omega)]; exact c3 k hk
          · obtain ⟨⟨b1, b2, b3, b4⟩, o⟩ := w6
            exact ⟨⟨by rw [f5.2 _ _ (fun z => by unfold aIsl at z; omega)]; exact b1, by rw [f5.2 _ _ (fun z => by unfold aIsl at z; omega)]; exact b2, by rw [f5.2 _ _ (fun z => by unfold aIsl at z; omega)]; exact b3, by rw [f5.2 _ _ (fun z => by unfold aIsl at z; omega)]; exact b4⟩, o⟩
          · rw [f5.2 _ _ (fun z => by unfold aIsl at z; omega)]; exact w7
        | succ r ih =>
          intro i hi hj
          have hiC : i < cN C := by omega
          obtain ⟨a1, a2, a3⟩ := c7 i hiC
          obtain ⟨a1', a2', -⟩ := c7 (nxt (cN C) i) (nxt_lt hiC)
          have bx := puX_b (s := s) (hCi i hiC).1.1 h9
          have by0 := puY_b (s := s) (hCi i hiC).1.2.1 h9
          have bx' := puX_b (s := s) (hCi _ (nxt_lt hiC)).1.1 h9
          have by' := puY_b (s := s) (hCi _ (nxt_lt hiC)).1.2.1 h9
          have vst := vp_in_nI (n := 16 * wn W + i) (N := 128) (by omega) (by omega)
          have no : ∀ (hno : ¬ puO C s e i), Q (some (.inl (-2))) h7 := fun hno => K2' (fun pk => hno (pk i hiC)) h7 f7' (keep h7 f7)
          refine qX12_push_229 _ _ hS7 ⟨vn8, fun z => absurd z (by rw [nI_clamp (by omega), e48]; exact nI_ge (by omega) (by omega)), fun _ => ?_⟩
          rw [L16, pk_mul, nI_add, nI_clamp (show 16 * wn W + i < 2 ^ 31 by omega), a1, a2, f_corZ (by omega), f_corZ (by omega)]
          refine ⟨vst, fun z => no (fun t => z t.1), fun z1 => ⟨vst, fun z => no (fun t => z t.2.1), fun z2 => ?_⟩⟩
          refine m_isSide2 hS7 hlt hiC (by omega) e48 a1 a1' a2 a2' ⟨bx, bx', by0, by'⟩ ⟨_, rfl, hS7, fun z => ?_, fun z => no (fun t => ?_)⟩
          · rw [nI_1]
            refine ih (i + 1) (by omega) (fun j hj' => ?_)
            by_cases ej : j = i
            · subst ej
              refine ⟨Classical.byContradiction z1, Classical.byContradiction z2, ?_⟩
              cases hb : sdZ j (puX C s e j) (puX C s e (nxt (cN C) j)) (puY C s e j) (puY C s e (nxt (cN C) j)) with
              | true => rfl
              | false => exact absurd (b2i_0.mpr hb) z
            · exact hj j (by omega)
          · have t3 := t.2.2
            rw [b2i_0.mp z] at t3
            exact absurd t3 (by decide)
      exact lp (cN C) 0 (by omega) (fun j hj => by omega)
    -- the first loop: the corners
    refine mloop (W := fun i h7 => mW G kX12_push (d + 2) b 70 [some (.inr (some 47)), some (.inl (nI c)), some (.inl (nI s)), some (.inl v3), some (.inl (nI (wn W))), some (.inl (nI i)), none] [] h7 Q)
      (P := fun i h7 => mFr2 (aRng (wn W)) h h7 ∧ mI h7 48 (wn W) = nI (cN C) ∧ ∀ i', i' < i → mI h7 49 (16 * wn W + i') = iI (puX C s e i') ∧ mI h7 50 (16 * wn W + i') = iI (puY C s e i') ∧ mI h7 51 (16 * wn W + i') = nI (cS C i')) (cN C) ?_ ?_ 0 h6 (by omega) ⟨f6, by rw [e6, mI_SI_s], fun i' z => by omega⟩
    · rintro i h7 hi ⟨f7, e48, c7⟩ ih
      have hS7 := f7.1.sk hS
      have hW7 := keep h7 f7
      have hC7 := (hW7.1.2.2 c hc).1
      rw [← hCe] at hC7
      obtain ⟨g1, g2, g3⟩ := hC7.2 i hi
      have vsc := vp_in_nI (n := 16 * c + i) (N := 128) (by omega) (by omega)
      have vst := vp_in_nI (n := 16 * wn W + i) (N := 128) (by omega) (by omega)
      have isc : (16 : Int32) * nI c + nI i = nI (16 * c + i) := by rw [L16, pk_mul, nI_add]
      have ist : (16 : Int32) * nI (wn W) + nI i = nI (16 * wn W + i) := by rw [L16, pk_mul, nI_add]
      have sc : (nI (16 * c + i)).toNatClampNeg = 16 * c + i := nI_clamp (by omega)
      have stt : (nI (16 * wn W + i)).toNatClampNeg = 16 * wn W + i := nI_clamp (by omega)
      -- the three writes
      have wr : ∀ (wx wy : Int32), nI (cX C i) + wx = iI (puX C s e i) → nI (cY C i) + wy = iI (puY C s e i) → ∀ h8, h8 = mSI h7 49 (16 * wn W + i) (nI (cX C i) + wx) → ∀ h9, h9 = mSI h8 50 (16 * wn W + i) (mI h8 50 (16 * c + i) + wy) → ∀ h10, h10 = mSI h9 51 (16 * wn W + i) (mI h9 51 (16 * c + i)) → mW G kX12_push (d + 2) b 70 [some (.inr (some 47)), some (.inl (nI c)), some (.inl (nI s)), some (.inl v3), some (.inl (nI (wn W))), some (.inl (nI (i + 1))), none] [] h10 Q := by
        intro wx wy ex ey h8 e8 h9 e9 h10 e10
        have y8 : mI h8 50 (16 * c + i) = nI (cY C i) := by rw [e8, mI_SI_a (by omega)]; exact g2
        have s9 : mI h9 51 (16 * c + i) = nI (cS C i) := by rw [e9, mI_SI_a (by omega), e8, mI_SI_a (by omega)]; exact g3
        rw [y8, ey] at e9
        rw [s9] at e10
        rw [ex] at e8
        rw [e10, e9, e8]
        refine ih _ ⟨((f7.tr (mFr2.SI (Or.inr ⟨by omega, by omega, by omega⟩))).tr (mFr2.SI (Or.inr ⟨by omega, by omega, by omega⟩))).tr (mFr2.SI (Or.inr ⟨by omega, by omega, by omega⟩)), by rw [mI_SI_a (by omega), mI_SI_a (by omega), mI_SI_a (by omega)]; exact e48, fun i' hi' => ?_⟩
        by_cases ei : i' = i
        · subst ei
          rw [mI_SI_a (by omega), mI_SI_a (by omega), mI_SI_s, mI_SI_a (by omega), mI_SI_s, mI_SI_s]
          exact ⟨rfl, rfl, rfl⟩
        · have nk : 16 * wn W + i' ≠ 16 * wn W + i := by omega
          rw [mI_SI_k nk, mI_SI_k nk, mI_SI_k nk, mI_SI_k nk, mI_SI_k nk, mI_SI_k nk, mI_SI_k nk, mI_SI_k nk, mI_SI_k nk]
          exact c7 i' (by omega)
      have r1 : m_rem (nI s) 2 = 1 ↔ s % 2 = 1 := by rw [rem2_n (by omega)]; exact nI_eq (b := 1) (by omega) (by omega)
      have r0 : m_rem (nI s) 2 = 0 ↔ s % 2 = 0 := by rw [rem2_n (by omega)]; exact nI_eq (b := 0) (by omega) (by omega)
      have mvX : puM (cN C) s i = true → ∀ w : Int32, w = (if ¬ m_rem (nI s) 2 = 1 then 0 else v3) → nI (cX C i) + w = iI (puX C s e i) := fun hm w ew => by
        unfold puX
        by_cases p : s % 2 = 1
        · rw [if_pos ⟨hm, p⟩, ew, if_neg (fun t => t (r1.mpr p)), ev3, ii_nat, ii_add]
        · rw [if_neg (fun t => p t.2), ew, if_pos (fun t => p (r1.mp t)), ii_nat, show (0 : Int32) = iI 0 from rfl, ii_add]
      have mvY : puM (cN C) s i = true → ∀ w : Int32, w = (if ¬ m_rem (nI s) 2 = 0 then 0 else v3) → nI (cY C i) + w = iI (puY C s e i) := fun hm w ew => by
        unfold puY
        by_cases p : s % 2 = 0
        · rw [if_pos ⟨hm, p⟩, ew, if_neg (fun t => t (r0.mpr p)), ev3, ii_nat, ii_add]
        · rw [if_neg (fun t => p t.2), ew, if_pos (fun t => p (r0.mp t)), ii_nat, show (0 : Int32) = iI 0 from rfl, ii_add]
      have noX : ¬ puM (cN C) s i = true → nI (cX C i) + 0 = iI (puX C s e i) := fun hm => by
        unfold puX
        rw [if_neg (fun t => hm t.1), ii_nat, show (0 : Int32) = iI 0 from rfl, ii_add]
      have noY : ¬ puM (cN C) s i = true → nI (cY C i) + 0 = iI (puY C s e i) := fun hm => by
        unfold puY
        rw [if_neg (fun t => hm t.1), ii_nat, show (0 : Int32) = iI 0 from rfl, ii_add]
      refine qX12_push_70 _ _ _ _ _ hS7 ⟨v8, fun z => absurd z (by rw [nI_clamp (by omega), hC7.1]; exact nI_ge hi (by omega)), fun _ => ?_⟩
      rw [isc, ist, sc, stt, g1, nI_1]
      have e10 : ¬ (1 : Int32) = 0 := by decide
      refine ⟨fun z => ⟨vsc, fun t => absurd t e10, fun _ w20 e20 => ⟨vst, fun h22 e22 => ⟨vsc, fun t => absurd t e10, fun _ w29 e29 => ⟨vst, fun h31 e31 => ⟨vsc, vst, fun h34 e34 => ?_⟩⟩⟩⟩⟩, fun z => ?_⟩
      · have hm : puM (cN C) s i = true := puM_t.mpr (Or.inl ((nI_eq (by omega) (by omega)).mp z))
        exact wr w20 w29 (mvX hm w20 e20) (mvY hm w29 e29) h22 e22 h31 e31 h34 e34
      · have hz : i ≠ s := fun t => z (by rw [t])
        refine m_next0 hS7 (by omega) hC7 okr.sm hs ⟨_, rfl, hS7, fun w43 e43 => ?_⟩
        have hnx := nxt_lt hs
        have e43' : w43 = if i = nxt (cN C) s then 1 else 0 := by
          have q : nI (16 * c + i) = nI (16 * c + nxt (cN C) s) ↔ 16 * c + i = 16 * c + nxt (cN C) s := nI_eq (by omega) (by omega)
          rw [e43]
          by_cases t : i = nxt (cN C) s
          · rw [if_pos t, if_neg (fun u => u (q.mpr (by omega)))]
          · rw [if_neg t, if_pos (fun u => t (by have := q.mp u; omega))]
        by_cases t : i = nxt (cN C) s
        · rw [if_pos t] at e43'
          have hm : puM (cN C) s i = true := puM_t.mpr (Or.inr t)
          have n43 : ¬ w43 = 0 := by rw [e43']; decide
          rw [g1]
          exact ⟨vsc, fun q => absurd q n43, fun _ w62 e62 => ⟨vst, fun h64 e64 => ⟨vsc, fun q => absurd q n43, fun _ w71 e71 => ⟨vst, fun h73 e73 => ⟨vsc, vst, fun h76 e76 => wr w62 w71 (mvX hm w62 e62) (mvY hm w71 e71) h64 e64 h73 e73 h76 e76⟩⟩⟩⟩⟩
        · rw [if_neg t] at e43'
          have hm : ¬ puM (cN C) s i = true := fun u => (puM_t.mp u).elim hz t
          rw [g1]
          exact ⟨vsc, fun _ => ⟨vst, fun h46 e46 => ⟨vsc, fun _ => ⟨vst, fun h49 e49 => ⟨vsc, vst, fun h52 e52 => wr 0 0 (noX hm) (noY hm) h46 e46 h49 e49 h52 e52⟩⟩, fun q => absurd e43' q⟩⟩, fun q => absurd e43' q⟩
    · rintro h7 ⟨f7, e48, c7⟩
      have hW7 := keep h7 f7
      have hC7 := (hW7.1.2.2 c hc).1
      rw [← hCe] at hC7
      exact qX12_push_70 _ _ _ _ _ (f7.1.sk hS) ⟨v8, fun _ => chk h7 f7 e48 c7, fun z => absurd (by rw [nI_clamp (by omega), hC7.1]; exact nI_le (by omega) (by omega)) z⟩
  · exact absurd z (by have := u.2.2.2.2; omega)
/-- one leaf of canMoveSide -/
theorem cms_leaf {X vB vA v2 iB iA : Int32} {xs xb xa e : Int} (hx : X = iI xs) (hv : v2 = iI e) (hB : vB = iI xb) (hA : vA = iI xa) (bx : (0 ≤ xs ∧ xs ≤ 32) ∧ (0 ≤ xb ∧ xb ≤ 32) ∧ (0 ≤ xa ∧ xa ≤ 32) ∧ (-9 ≤ e ∧ e ≤ 9)) (pB : vp_in iB 16) (pA : vp_in iA 16)
    (K1 : ¬ ((0 ≤ xs + e ∧ xs + e ≤ 32) ∧ xb ≠ xs + e ∧ xa ≠ xs + e) → Q (some (.inl 0)) h) (K2 : ((0 ≤ xs + e ∧ xs + e ≤ 32) ∧ xb ≠ xs + e ∧ xa ≠ xs + e) → Q (some (.inl 1)) h) :
    ((f_X11_within (X + v2) 0 32) = 0 → Q (some (.inl 0)) h) ∧ (¬ (f_X11_within (X + v2) 0 32) = 0 → vp_in iB 16 ∧ ((vB = X + v2 → Q (some (.inl 0)) h) ∧ (¬ vB = X + v2 → vp_in iA 16 ∧ ∀ w4 : Int32, w4 = (if vA = X + v2 then 0 else 1) → Q (some (.inl w4)) h))) := by
  have es : X + v2 = iI (xs + e) := by rw [hx, hv, ii_add]
  have hw := f_wiZ (v := iI (xs + e)) 0 32 ⟨by omega, by omega⟩ ⟨by omega, by omega⟩
  rw [ii_toInt ⟨by omega, by omega⟩] at hw
  have hw' : f_X11_within (iI (xs + e)) 0 32 = 0 ↔ ¬ (0 ≤ xs + e ∧ xs + e ≤ 32) := hw
  have qB : iI xb = iI (xs + e) ↔ xb = xs + e := ii_eq ⟨by omega, by omega⟩ ⟨by omega, by omega⟩
  have qA : iI xa = iI (xs + e) ↔ xa = xs + e := ii_eq ⟨by omega, by omega⟩ ⟨by omega, by omega⟩
  rw [es, hB, hA]
  refine ⟨fun z => K1 (fun t => (hw'.mp z) t.1), fun z => ⟨pB, fun z2 => K1 (fun t => t.2.1 (qB.mp z2)), fun z2 => ⟨pA, fun w4 e4 => ?_⟩⟩⟩
  by_cases z3 : xa = xs + e
  · rw [e4, if_pos (qA.mpr z3)]
    exact K1 (fun t => t.2.2 z3)
  · rw [e4, if_neg (fun t => z3 (qA.mp t))]
    exact K2 ⟨Classical.byContradiction (fun t => z (hw'.mpr t)), fun t => z2 (qB.mpr t), z3⟩
theorem c1_canMoveSide {a s : Nat} {C : aCo} (v3 : Int32) (hS : mSk h) (ta : mT h a = 2) (hC : mCoX h a C) (ok : okRing C) (hs : s < cN C) (h9 : -9 ≤ v3.toInt ∧ v3.toInt ≤ 9) (K1 : ¬ puK C s v3.toInt → Q (some (.inl 0)) h) (K2 : puK C s v3.toInt → Q (some (.inl 1)) h) : mC G kX1_canMoveSide (d + 1) b [.inr (some a), .inl (nI s), .inl v3] h Q := by
  obtain ⟨⟨hn4, hn16, hn2⟩, hCi⟩ := ok
  have hF := nxt_F (n := cN C) hn4 hs
  have hB := (nxt_B (n := cN C) hn4 hs).resolve_right (by omega)
  obtain ⟨e1, e2⟩ := hC
  have ev := ii_of v3
  have r := fun i hi => (hCi i hi).1
  have vS := vp_in_nI (n := s) (N := 16) (by omega) (by omega)
  have vB := vp_in_nI (n := puB (cN C) s) (N := 16) (by omega) (by omega)
  have vF := vp_in_nI (n := puF (cN C) s) (N := 16) (by omega) (by omega)
  have cS0 : (nI s).toNatClampNeg = s := nI_clamp (by omega)
  have cB : (nI (puB (cN C) s)).toNatClampNeg = puB (cN C) s := nI_clamp (by omega)
  have cF : (nI (puF (cN C) s)).toNatClampNeg = puF (cN C) s := nI_clamp (by omega)
  have i0 : nI s ≤ 0 ↔ s = 0 := by rw [show (0 : Int32) = nI 0 from rfl, nI_leI (by omega) (by omega)]; omega
  have iF : nI (cN C) ≤ nI s + 2 ↔ cN C ≤ s + 2 := by rw [L2, nI_add, nI_leI (by omega) (by omega)]
  have eB0 : s = 0 → nI (cN C) - 1 = nI (puB (cN C) s) := fun q => by
    unfold puB; rw [if_pos q, show (1 : Int32) = nI 1 from rfl, pk_sub (by omega)]
  have eB1 : ¬ s = 0 → nI s - 1 = nI (puB (cN C) s) := fun q => by
    unfold puB; rw [if_neg q, show (1 : Int32) = nI 1 from rfl, pk_sub (by omega)]
  have eF0 : cN C ≤ s + 2 → nI s + 2 - nI (cN C) = nI (puF (cN C) s) := fun q => by
    unfold puF; rw [if_neg (by omega), L2, nI_add, pk_sub (by omega)]
  have eF1 : ¬ cN C ≤ s + 2 → nI s + 2 = nI (puF (cN C) s) := fun q => by
    unfold puF; rw [if_pos (by omega), L2, nI_add]
  refine qX1_canMoveSide a _ _ ta hS ?_
  rw [e1, and1_n (by omega), i0, iF, cS0]
  have p0 : nI (s % 2) = 0 ↔ s % 2 = 0 := nI_eq (b := 0) (by omega) (by omega)
  rw [p0]
  have lX : ∀ iB iA : Int32, iB = nI (puB (cN C) s) → iA = nI (puF (cN C) s) → ¬ s % 2 = 0 → (((f_X11_within (mI h (a + 6) s + v3) 0 32) = 0 → Q (some (.inl 0)) h) ∧ (¬ (f_X11_within (mI h (a + 6) s + v3) 0 32) = 0 → vp_in iB 16 ∧ (((mI h (a + 6) iB.toNatClampNeg) = (mI h (a + 6) s + v3) → Q (some (.inl 0)) h) ∧ (¬ (mI h (a + 6) iB.toNatClampNeg) = (mI h (a + 6) s + v3) → vp_in iA 16 ∧ ∀ w4 : Int32, w4 = (if (mI h (a + 6) iA.toNatClampNeg) = (mI h (a + 6) s + v3) then 0 else 1) → Q (some (.inl w4)) h)))) := by
    intro iB iA q1 q2 p
    have eA : ∀ i, puA C s i = cX C i := fun i => by unfold puA; rw [if_neg p]
    unfold puK at K1 K2
    rw [eA, eA, eA] at K1 K2
    rw [q1, q2]
    have rs := r s hs; have rb := r _ hB.1; have rf := r _ hF.1
    exact cms_leaf (xs := cX C s) (xb := cX C (puB (cN C) s)) (xa := cX C (puF (cN C) s)) (e := v3.toInt) (by rw [(e2 s hs).1, ii_nat]) ev (by rw [cB, (e2 _ hB.1).1, ii_nat]) (by rw [cF, (e2 _ hF.1).1, ii_nat]) (by omega) vB vF K1 K2
  have lY : ∀ iB iA : Int32, iB = nI (puB (cN C) s) → iA = nI (puF (cN C) s) → s % 2 = 0 → (((f_X11_within (mI h (a + 7) s + v3) 0 32) = 0 → Q (some (.inl 0)) h) ∧ (¬ (f_X11_within (mI h (a + 7) s + v3) 0 32) = 0 → vp_in iB 16 ∧ (((mI h (a + 7) iB.toNatClampNeg) = (mI h (a + 7) s + v3) → Q (some (.inl 0)) h) ∧ (¬ (mI h (a + 7) iB.toNatClampNeg) = (mI h (a + 7) s + v3) → vp_in iA 16 ∧ ∀ w4 : Int32, w4 = (if (mI h (a + 7) iA.toNatClampNeg) = (mI h (a + 7) s + v3) then 0 else 1) → Q (some (.inl w4)) h)))) := by
    intro iB iA q1 q2 p
    have eA : ∀ i, puA C s i = cY C i := fun i => by unfold puA; rw [if_pos p]
    unfold puK at K1 K2
    rw [eA, eA, eA] at K1 K2
    rw [q1, q2]
    have rs := r s hs; have rb := r _ hB.1; have rf := r _ hF.1
    exact cms_leaf (xs := cY C s) (xb := cY C (puB (cN C) s)) (xa := cY C (puF (cN C) s)) (e := v3.toInt) (by rw [(e2 s hs).2.1, ii_nat]) ev (by rw [cB, (e2 _ hB.1).2.1, ii_nat]) (by rw [cF, (e2 _ hF.1).2.1, ii_nat]) (by omega) vB vF K1 K2
  exact ⟨fun p => ⟨fun q => ⟨fun q2 => ⟨vS, lX _ _ (eB0 q) (eF0 q2) p⟩, fun q2 => ⟨vS, lX _ _ (eB0 q) (eF1 q2) p⟩⟩, fun q => ⟨fun q2 => ⟨vS, lX _ _ (eB1 q) (eF0 q2) p⟩, fun q2 => ⟨vS, lX _ _ (eB1 q) (eF1 q2) p⟩⟩⟩, fun p => ⟨fun q => ⟨fun q2 => ⟨vS, lY _ _ (eB0 q) (eF0 q2) p⟩, fun q2 => ⟨vS, lY _ _ (eB0 q) (eF1 q2) p⟩⟩, fun q => ⟨fun q2 => ⟨vS, lY _ _ (eB1 q) (eF0 q2) p⟩, fun q2 => ⟨vS, lY _ _ (eB1 q) (eF1 q2) p⟩⟩⟩⟩
set_option maxHeartbeats 1000000 in
theorem c1_copyMoved {a a1 s : Nat} {C : aCo} (v3 : Int32) (hS : mSk h) (ta : mT h a = 2) (ta1 : mT h a1 = 2) (hne : a1 ≠ a) (hC : mCoX h a1 C) (ok : okRing C) (hs : s < cN C) (e0 : mI h a 1 = nI (cN C))
    (K : ∀ h', mFr2 (fun x _ => x = a + 6 ∨ x = a + 7 ∨ x = a + 8) h h' → (∀ i, i < cN C → mI h' (a + 6) i = iI (puX C s v3.toInt i) ∧ mI h' (a + 7) i = iI (puY C s v3.toInt i) ∧ mI h' (a + 8) i = nI (cS C i)) → Q none h') : mC G kX1_copyMoved d b [.inr (some a), .inr (some a1), .inl (nI s), .inl v3] h Q := by
  obtain ⟨⟨hn4, hn16, hn2⟩, hCi⟩ := ok
  have ap := ap22 hS ta1 ta hne
  have ev := ii_of v3
  refine qX1_copyMoved a a1 _ _ ta ta1 hS (fun w1 hw1 w2 hw2 => ?_)
  have hnx := nxt_lt hs
  have en : w1 = nI (nxt (cN C) s) := by
    rw [hw1, e0, nI_1]
    unfold nxt
    by_cases q : s + 1 = cN C
    · rw [if_pos (nI_le (by omega) (by omega)), if_pos q]; rfl
    · rw [if_neg (nI_ge (by omega) (by omega)), if_neg q]
  have ex : w2 = if s % 2 = 0 then 1 else 0 := by
    have p0 : nI (s % 2) = 0 ↔ s % 2 = 0 := nI_eq (b := 0) (by omega) (by omega)
    rw [hw2, and1_n (by omega)]
    by_cases q : s % 2 = 0
    · rw [if_neg (fun t => t (p0.mpr q)), if_pos q]
    · rw [if_pos (fun t => q (p0.mp t)), if_neg q]
  refine mloop (W := fun i h1 => mW G kX1_copyMoved d b 35 [some (.inr (some a)), some (.inr (some a1)), some (.inl (nI s)), some (.inl v3), some (.inl w1), some (.inl w2), some (.inl (nI i)), none] [] h1 Q)
    (P := fun i h1 => mFr2 (fun x _ => x = a + 6 ∨ x = a + 7 ∨ x = a + 8) h h1 ∧ ∀ i', i' < i → mI h1 (a + 6) i' = iI (puX C s v3.toInt i') ∧ mI h1 (a + 7) i' = iI (puY C s v3.toInt i') ∧ mI h1 (a + 8) i' = nI (cS C i')) (cN C) ?_ ?_ 0 h (by omega) ⟨mFr2.rf, fun i' z => by omega⟩
  · rintro i h1 hi ⟨f1, c1⟩ ih
    have hS1 := f1.1.sk hS
    have e01 : mI h1 a 1 = nI (cN C) := by rw [f1.2 _ _ (fun z => by omega)]; exact e0
    have v16 := vp_in_nI (n := i) (N := 16) (by omega) (by omega)
    have old : ∀ j k, j = 6 ∨ j = 7 ∨ j = 8 → mI h1 (a1 + j) k = mI h (a1 + j) k := fun j k hj => f1.2 _ _ (fun z => by
      have q6 := ap j 6 (by omega) (by omega); have q7 := ap j 7 (by omega) (by omega); have q8 := ap j 8 (by omega) (by omega)
      omega)
    obtain ⟨g1, g2, g3⟩ := hC.2 i hi
    refine qX1_copyMoved_35 a a1 _ _ _ _ _ (by rw [f1.1.2.1]; exact ta) (by rw [f1.1.2.1]; exact ta1) hS1 ⟨fun z => absurd z (by rw [e01]; exact nI_ge hi (by omega)), fun _ m em => ⟨v16, fun w3 e3 => ⟨v16, fun h5 e5 => ⟨v16, fun w7 e7 => ⟨v16, fun h9 e9 => ⟨v16, v16, fun h12 e12 => ?_⟩⟩⟩⟩⟩⟩
    have hmv : (m = 0 ↔ ¬ puM (cN C) s i = true) := by
      rw [em, puM_t]
      have q1 : nI i = nI s ↔ i = s := nI_eq (by omega) (by omega)
      have q2 : nI i = w1 ↔ i = nxt (cN C) s := by rw [en]; exact nI_eq (by omega) (by omega)
      by_cases t1 : i = s
      · rw [if_pos (q1.mpr t1)]
        exact ⟨fun z => absurd z (by decide), fun z => absurd (Or.inl t1) z⟩
      · rw [if_neg (fun t => t1 (q1.mp t))]
        by_cases t2 : i = nxt (cN C) s
        · rw [if_neg (fun t => t (q2.mpr t2))]
          exact ⟨fun z => absurd z (by decide), fun z => absurd (Or.inr t2) z⟩
        · rw [if_pos (fun t => t2 (q2.mp t))]
          exact ⟨fun _ t => t.elim t1 t2, fun _ => rfl⟩
    have hx : nI (cX C i) + w3 = iI (puX C s v3.toInt i) := by
      unfold puX
      rw [e3]
      by_cases t1 : puM (cN C) s i = true
      · rw [if_neg (fun z => (hmv.mp z) t1), ex]
        by_cases p : s % 2 = 0
        · rw [if_pos p, if_pos (by decide), if_neg (by omega), ii_nat, show (0 : Int32) = iI 0 from rfl, ii_add]
        · rw [if_neg p, if_neg (by decide), if_pos ⟨t1, by omega⟩]
          conv => lhs; rw [ev]
          rw [ii_nat, ii_add]
      · rw [if_pos (hmv.mpr t1), if_neg (fun t => t1 t.1), ii_nat, show (0 : Int32) = iI 0 from rfl, ii_add]
    have hy : nI (cY C i) + w7 = iI (puY C s v3.toInt i) := by
      unfold puY
      rw [e7]
      by_cases t1 : puM (cN C) s i = true
      · rw [if_neg (fun z => (hmv.mp z) t1), ex]
        by_cases p : s % 2 = 0
        · rw [if_pos p, if_neg (by decide), if_pos ⟨t1, p⟩]
          conv => lhs; rw [ev]
          rw [ii_nat, ii_add]
        · rw [if_neg p, if_pos rfl, if_neg (fun t => p t.2), ii_nat, show (0 : Int32) = iI 0 from rfl, ii_add]
      · rw [if_pos (hmv.mpr t1), if_neg (fun t => t1 t.1), ii_nat, show (0 : Int32) = iI 0 from rfl, ii_add]
    rw [nI_clamp (show i < 2 ^ 31 by omega)] at e5 e9 e12
    have q76 := ap 7 6 (by omega) (by omega); have q86 := ap 8 6 (by omega) (by omega); have q87 := ap 8 7 (by omega) (by omega)
    rw [old 6 i (by omega), g1, hx] at e5
    have y5 : mI h5 (a1 + 7) i = nI (cY C i) := by rw [e5, mI_SI_a q76, old 7 i (by omega)]; exact g2
    rw [y5, hy] at e9
    have s9 : mI h9 (a1 + 8) i = nI (cS C i) := by rw [e9, mI_SI_a q87, e5, mI_SI_a q86, old 8 i (by omega)]; exact g3
    rw [s9] at e12
    rw [nI_1, e12, e9, e5]
    refine ih _ ⟨((f1.tr (mFr2.SI (Or.inl rfl))).tr (mFr2.SI (Or.inr (Or.inl rfl)))).tr (mFr2.SI (Or.inr (Or.inr rfl))), fun i' hi' => ?_⟩
    by_cases e : i' = i
    · subst e
      rw [mI_SI_a (by omega), mI_SI_a (by omega), mI_SI_s, mI_SI_a (by omega), mI_SI_s, mI_SI_s]
      exact ⟨rfl, rfl, rfl⟩
    · rw [mI_SI_k e, mI_SI_k e, mI_SI_k e, mI_SI_k e, mI_SI_k e, mI_SI_k e, mI_SI_k e, mI_SI_k e, mI_SI_k e]
      exact c1 i' (by omega)
  · rintro h1 ⟨f1, c1⟩
    have e01 : mI h1 a 1 = nI (cN C) := by rw [f1.2 _ _ (fun z => by omega)]; exact e0
    exact qX1_copyMoved_35 a a1 _ _ _ _ _ (by rw [f1.1.2.1]; exact ta) (by rw [f1.1.2.1]; exact ta1) (f1.1.sk hS) ⟨fun _ => K h1 f1 c1, fun z => absurd (by rw [e01]; exact nI_le (Nat.le_refl _) (by omega)) z⟩
theorem c11_push (v1 v2 v3 : Int32) {W : aW} {I : Nat → Nat} (hS : mSk h) (st : cSt h W I) (K1 : (∀ c s, ¬ okPu W v1 v2 v3 c s) → Q (some (.inl (-1))) h)
    (K2 : ∀ c s, okPu W v1 v2 v3 c s → ¬ puOk (wC W c) s v3.toInt → Q (some (.inl (-2))) h)
    (K3 : ∀ c s, okPu W v1 v2 v3 c s → puOk (wC W c) s v3.toInt → ∀ h', mSk h' → lwK aAd h h' → mN h' ≤ mN h + 9 → mI h' 8 7 = mI h 8 7 + 1 → cSt h' (wAdd W (puC (wC W c) s v3.toInt)) (iAdd W I (mN h)) → Q (some (.inl (nI (wn W)))) h') : mC G kX11_push (d + 4) (b1 + 9, b2 + 5760) [.inr (some 8), .inl v1, .inl v2, .inl v3] h Q := by
  have hn8 := st.1.1.2.1
  have e33 := st.1.1.1
  refine qX11_push v1 v2 v3 hS (c0_get v1 hS st.1.1 (fun t => ⟨_, rfl, hS, fun _ => K1 (fun c s u => t ?_), fun y z => (by cases z)⟩) (fun c hc ec => ⟨_, rfl, hS, fun z => (by cases z), fun y z => ?_⟩))
  · rw [u.1.2, nI_toI (by have := u.1.1; omega)]
    have := u.1.1; omega
  cases z
  have hne : ∀ c' s, okPu W v1 v2 v3 c' s → c' = c := fun c' s u => by
    have := u.1.2
    rw [ec, nI_eq (by omega) (by have := u.1.1; omega)] at this
    exact this.symm
  obtain ⟨eR, ta, hC, okr, la, sw⟩ := st.1.1.2.2 c hc
  have ha := (st.1.2.1 c hc).1
  have hn16 := okr.1.2.1
  have h9i := f_wiZ (v := v3) (-9) 9 ⟨by omega, by omega⟩ ⟨by omega, by omega⟩
  rw [hC.1, e33, within_n (by omega), L8, nI_ltI (by omega) (by omega)]
  refine ⟨ta, fun zs => ⟨fun z => K1 (fun c' s u => u.2.2.2.1 z), fun zz => ⟨fun z => K1 (fun c' s u => (h9i.mp z) u.2.2.1), fun z9 => ⟨fun w8 => ?_, fun z => K1 (fun c' s u => z u.2.2.2.2)⟩⟩⟩, fun z => K1 (fun c' s u => ?_)⟩
  · have hs0 := Classical.byContradiction zs
    obtain ⟨s, hs, es⟩ := nI_ex hs0.1 hs0.2 (by omega)
    have h9 := wi9 z9
    have okp : okPu W v1 v2 v3 c s := ⟨⟨hc, ec⟩, ⟨hs, es⟩, h9, zz, w8⟩
    rw [es]
    refine c1_canMoveSide (d := d + 2) v3 hS ta hC okr hs h9 (fun pk => ⟨_, rfl, hS, ta, fun q => absurd rfl q, fun _ => K2 c s okp (fun t => pk ((pu_iff okr hs).mp t))⟩) (fun pk => ⟨_, rfl, hS, ta, fun _ h6 e6 => ?_, fun q => absurd q (by decide)⟩)
    have h93 : 93 ≤ mN h := Nat.le_of_succ_le hS.2.2.1.1
    have hlt := tag_lt hS (a := I c) (by rw [ta]; decide)
    have e6' : mI h6 33 1 = nI (wn W) := by rw [e6, mI_Al, if_neg (by omega)]; exact e33
    have e6'' : mI h6 (I c) 1 = nI (cN (wC W c)) := by rw [e6, mI_Al, if_neg (by omega)]; exact hC.1
    rw [e6', e6'']
    refine c1_init (d := d + 2) (b1 := 0) (b2 := 0) hS e6 (fun h8 g8 hS8 nw8 n8 t8 f0 f1 fk fj => ⟨rfl, hS8, by rw [(g8.2 _ hlt).1]; exact ta, t8, ?_⟩)
    have s8 := st.gr hS hS8 g8 nw8
    have hneI : ∀ c, c < wn W → I c ≠ mN h := fun c hc e => by
      have := (st.1.1.2.2 c hc).2.1
      have := tag_lt hS (a := I c) (by omega)
      omega
    obtain ⟨-, ta8, hC8, -, -, -⟩ := s8.1.1.2.2 c hc
    have po := (pu_iff okr hs).mpr pk
    have okN := puC_ok okr po
    refine c1_copyMoved v3 hS8 t8 ta8 (hneI c hc) hC8 okr hs f1 (fun h9 f9 c9 => ⟨rfl, f9.1.sk hS8, by rw [f9.1.2.1]; exact ta8, by rw [f9.1.2.1]; exact t8, ?_⟩)
    have hS9 := f9.1.sk hS8
    have t9 : mT h9 (mN h) = 2 := by rw [f9.1.2.1]; exact t8
    have s9 : cSt h9 W I := s8.co hS8 t8 h93 hneI f9 (fun x k z => by
      rcases z with z | z | z
      · exact ⟨6, by omega, z⟩
      · exact ⟨7, by omega, z⟩
      · exact ⟨8, by omega, z⟩)
    have o9 : ∀ x k, x ≠ mN h + 6 → x ≠ mN h + 7 → x ≠ mN h + 8 → mI h9 x k = mI h8 x k := fun x k q1 q2 q3 => f9.2 _ _ (fun z => by omega)
    have l8 : ∀ x k, x < 93 → mI h8 x k = mI h x k := fun x k hx => by rw [(g8.2 x (by omega)).2.2.2]
    have nc : nwC h9 (mN h) (wn W) (puC (wC W c) s v3.toInt) := by
      refine ⟨t9, h93, by rw [o9 _ _ (by omega) (by omega) (by omega)]; exact f0, ⟨by rw [o9 _ _ (by omega) (by omega) (by omega)]; exact f1, fun i hi => ?_⟩, okN, fun j k hj => by rw [o9 _ _ (by omega) (by omega) (by omega)]; exact fj j k (by omega) (by omega), by rw [o9 _ _ (by omega) (by omega) (by omega)]; exact fk 10 (by omega), by rw [o9 _ _ (by omega) (by omega) (by omega)]; exact fk 11 (by omega)⟩
      have hi' : i < cN (wC W c) := hi
      obtain ⟨a1, a2, a3⟩ := c9 i hi'
      obtain ⟨o1, o2, -⟩ := po i hi'
      refine ⟨?_, ?_, a3⟩
      · rw [a1, ii_nat]; congr 1
        show puX (wC W c) s v3.toInt i = ((puX (wC W c) s v3.toInt i).toNat : Int)
        omega
      · rw [a2, ii_nat]; congr 1
        show puY (wC W c) s v3.toInt i = ((puY (wC W c) s v3.toInt i).toNat : Int)
        omega
    refine c11_addCoast hS9 s9 w8 nc hneI (fun h10 hS10 n10 t10 l10 e10 c10 s10 => ⟨rfl, hS10, by rw [t10, f9.1.2.1]; exact ta8, by rw [t10]; exact t9, ?_⟩)
    have e12 : mI h10 33 1 - 1 = nI (wn W) := by rw [e10]; exact nI_pred _
    rw [e12]
    exact K3 c s okp po h10 hS10 (((g8.lk hS).tr (f9.lk.wk (fun x k hx z => by omega))).tr l10) (by rw [n10, f9.1.1, n8]; exact Nat.le_refl _) (by rw [c10, f9.2 _ _ (by omega), l8 _ _ (by omega)]) s10
  · have := hne c' s u
    subst this
    have h1 := u.2.1.1
    exact z (by rw [u.2.1.2, nI_toI (by omega)]; omega)
end
