/-! next (class) -/
def chX (h : mH) (CH : aCc) : Prop := mI h 41 3 = CH.1 ∧ (∀ i, i < 32 → bt CH.1 i = true → i < 6) ∧ ∀ i, i < 6 → bt CH.1 i = true → (mI h 42 i = iI (CH.2 i).1.1 ∧ mI h 43 i = iI (CH.2 i).1.2 ∧ mI h 44 i = nI (CH.2 i).2) ∧ okDc (CH.2 i)
theorem chX.fr {A : Nat → Nat → Prop} {h h' : mH} {CH : aCc} (f : mFr2 A h h') (h1 : ¬ A 41 3) (h2 : ∀ a k, 42 ≤ a → a ≤ 44 → ¬ A a k) (c : chX h CH) : chX h' CH := by
  obtain ⟨c1, c2, c3⟩ := c
  refine ⟨by rw [f.2 _ _ h1]; exact c1, c2, fun i hi hb => ?_⟩
  rw [f.2 _ _ (h2 42 i (by omega) (by omega)), f.2 _ _ (h2 43 i (by omega) (by omega)), f.2 _ _ (h2 44 i (by omega) (by omega))]
  exact c3 i hi hb
theorem vw_es {C : aCo} (ok : okRing C) {q x y : Nat} (hx : x < 32) (hy : y < 32) (hw : coLand C x y = false) : f_X11_echoSteps (vwC C q x y) = nI (ecC C q x y / 2) := by
  have h1 := fcS_le C q (rm4 q x y) x y
  have h2 := fcO_le ok (q := q) (rm4 q x y) x y
  have h3 := rm4_31 (q := q) hx hy
  unfold vwC ecC
  rw [hw, if_neg (by decide)]
  by_cases h0 : fcS C q (rm4 q x y) x y = 0
  · rw [if_pos h0, if_pos h0]; decide
  · rw [if_neg h0, if_neg h0]
    obtain ⟨-, -, d3⟩ := vw_dec (4 * fcS C q (rm4 q x y) x y + fcO C q (rm4 q x y) x y) (by omega)
    rw [show (4 * fcS C q (rm4 q x y) x y + fcO C q (rm4 q x y) x y) / 4 = fcS C q (rm4 q x y) x y by omega, show (4 * fcS C q (rm4 q x y) x y + fcO C q (rm4 q x y) x y) % 4 = fcO C q (rm4 q x y) x y by omega] at d3
    rw [d3]
    by_cases h5 : fcO C q (rm4 q x y) x y = 1
    · rw [if_pos h5, if_pos h5]
    · rw [if_neg h5, if_neg h5]; congr 1; omega
theorem cnt_sh {P P' : Nat → Bool} {n s : Nat} (hs : s ≤ n) (h1 : ∀ i, i + s < n → P' (i + s) = P i) (h2 : ∀ i, i < s → P' i = false) (h3 : ∀ i, n - s ≤ i → i < n → P i = false) : cnt P' n = cnt P n := by
  have e1 : cnt P' n = cnt P' s + cnt (fun i => P' (s + i)) (n - s) := by
    have := cnt_add P' s (n - s)
    rw [show s + (n - s) = n by omega] at this; exact this
  have e2 : cnt P n = cnt P (n - s) + cnt (fun i => P (n - s + i)) s := by
    have := cnt_add P (n - s) s
    rw [show n - s + s = n by omega] at this; exact this
  rw [e1, e2, (cnt_z s).mpr h2, (cnt_z s).mpr (fun i hi => h3 _ (by omega) (by omega)), Nat.zero_add, Nat.add_zero]
  exact cnt_cong _ (fun i hi => by rw [Nat.add_comm]; exact h1 i (by omega))
/-- what is counted where one comes to is what is counted where one goes from -/
theorem cnt_tr {P P' : Nat → Bool} {s : Int} (hs : -31 ≤ s ∧ s ≤ 31) (hp : ∀ x, x < 32 → P x = true → 0 ≤ (x : Int) + s ∧ (x : Int) + s < 32) (h : ∀ x', x' < 32 → (P' x' = true ↔ ∃ x : Nat, x < 32 ∧ (x' : Int) = x + s ∧ P x = true)) : cnt P' 32 = cnt P 32 := by
  by_cases q : 0 ≤ s
  · obtain ⟨n, hn⟩ : ∃ n : Nat, s = n := ⟨s.toNat, by omega⟩
    refine cnt_sh (s := n) (by omega) (fun i hi => bool_iff ?_) (fun i hi => ?_) (fun i h1 h2 => ?_)
    · rw [h (i + n) hi]
      constructor
      · rintro ⟨x, hx, e, p⟩
        have : x = i := by omega
        rw [← this]; exact p
      · intro p; exact ⟨i, by omega, by omega, p⟩
    · cases hb : P' i with
      | false => rfl
      | true => obtain ⟨x, hx, e, p⟩ := (h i (by omega)).mp hb; omega
    · cases hb : P i with
      | false => rfl
      | true => have := hp i h2 hb; omega
  · obtain ⟨n, hn⟩ : ∃ n : Nat, s = -(n : Int) := ⟨(-s).toNat, by omega⟩
    refine (cnt_sh (P := P') (P' := P) (s := n) (by omega) (fun i hi => bool_iff ?_) (fun i hi => ?_) (fun i h1 h2 => ?_)).symm
    · rw [h i (by omega)]
      constructor
      · intro p; exact ⟨i + n, by omega, by omega, p⟩
      · rintro ⟨x, hx, e, p⟩
        have : x = i + n := by omega
        rw [← this]; exact p
    · cases hb : P i with
      | false => rfl
      | true => have := hp i (by omega) hb; omega
    · cases hb : P' i with
      | false => rfl
      | true => obtain ⟨x, hx, e, p⟩ := (h i h2).mp hb; omega
theorem cnt_low {r l l' g : Nat → Bool} {p : Nat} (hp : p < 32) (h1 : l p = true) (h2 : r p = true) (h3 : ∀ x, x < 32 → l' x = (l x && !decide (x = p))) : cnt (fun x => (r x && !l' x) && g x) 32 = cnt (fun x => (r x && !l x) && g x) 32 + (if g p then 1 else 0) := by
  rw [cnt_split (u := p) 32 hp]
  have e1 : ((r p && !l' p) && g p) = g p := by rw [h3 p hp, h1, h2, decide_eq_true rfl]; simp
  rw [e1]
  congr 1
  refine cnt_cong 32 (fun x hx => ?_)
  rw [h3 x hx]
  by_cases e : x = p
  · rw [e, decide_eq_true rfl, h1]; simp
  · rw [decide_eq_false e]; simp
noncomputable def acN (W : aW) (D : aDc) (c a : Nat) : Nat := cnt (fun k => thB W c (wl W - 1) k && aaB (wC W c) D k a) 1024
noncomputable def arN (W : aW) (D : aDc) (c a y : Nat) : Nat := cnt (fun x => thB W c (wl W - 1) (32 * y + x) && aaB (wC W c) D (32 * y + x) a) 32
theorem acN_r (W : aW) (D : aDc) (c a : Nat) : acN W D c a = smN (arN W D c a) 32 := by
  unfold acN
  rw [show 1024 = 32 * 32 from rfl, cnt_rows]; rfl
/-- rows from which one leaves the cells -/
theorem arN_0 {W : aW} {D : aDc} {c a y : Nat} (hy : y < 32) (h : ¬ (0 ≤ (y : Int) + D.1.2 ∧ (y : Int) + D.1.2 < 32)) : arN W D c a y = 0 := by
  refine (cnt_z 32).mpr (fun x hx => ?_)
  have : mvB (wC W c) D (32 * y + x) = false := by
    cases hb : mvB (wC W c) D (32 * y + x) with
    | false => rfl
    | true =>
      have := (mvB_t.mp hb).1.2
      unfold tY at this
      rw [show (32 * y + x) / 32 = y by omega] at this
      exact absurd this h
  unfold aaB
  rw [this]; simp
section
variable {G : mG} {d : Nat} {b : Nat × Nat} {h : mH} {Q : Option mV → mH → Prop}
theorem c1_sweepS {W : aW} {I : Nat → Nat} {c q : Nat} (hS : mSk h) (st : cSt h W I) (hc : c < wn W) (hq : q < 4) (K : ∀ h', mFr2 (aSweep (I c) q) h h' → cSt h' W I → flK h h' W I → cVw h' (I c) (wC W c) q → Q none h') : mC G kX1_sweep (d + 2) b [.inr (some (I c)), .inl (nI q)] h Q := by
  obtain ⟨-, ta, hC, ok, la, sw⟩ := st.1.1.2.2 c hc
  have ha := (st.1.2.1 c hc).1
  refine c1_sweep hS ta hC ok la sw hq (fun h1 f1 v1 s1 => ?_)
  have fg : mFr2 (aGb h (I c) c) h h1 := f1.wk (fun x k z => by
    refine Or.inr (Or.inr (Or.inl ?_))
    unfold aSweep at z
    rcases z with z | z
    · exact Or.inr (Or.inl z.1)
    · exact Or.inr (Or.inr z.1))
  have kc : kcA h1 W := kcA.fr f1 st.1.2.2.2.2.2.2.1 (fun v j k tv hv hj z => by
    have ap := ap82 hS tv ta
    have a3 := ap j 3 (by omega) (by omega); have a4 := ap j 4 (by omega) (by omega)
    unfold aSweep at z; omega) st.1.2.2.2.2.2.2.2.2.2.2
  exact K h1 f1 (cSt.gb hS hc fg s1 kc st) (flK.gb hS hc fg st.1) v1
theorem c8_isTold {i : Nat} {CH : aCc} (hS : mSk h) (hC : chX h CH) (hi : i < 6) (K : Q (some (.inl (b2i (bt CH.1 i)))) h) : mC G kX8_isTold d b [.inr (some 41), .inl (nI i)] h Q := by
  refine qX8_isTold _ hS (fun w1 e1 => ?_)
  rw [hC.1, ask_b2i _ (by omega)] at e1
  rw [e1]
  cases hb : bt CH.1 i with
  | true => rw [hb] at K; exact K
  | false => rw [hb] at K; exact K
theorem th_last {W : aW} {I : Nat → Nat} {c : Nat} (hW : cWo h W I) (h0 : 0 < wl W) (o : fol h W I c) {x y : Nat} (hx : x < 32) (hy : y < 32) : bt (mI h (I c + 5) ((wl W - 1) * 128 + 32 * ws W + y)) x = thB W c (wl W - 1) (32 * y + x) := by
  rw [o (wl W - 1) (by omega) (ws W) x y (Nat.le_refl _) hx hy, thB_gb (wO_okX hW c) hW.2.2.2.2.2.2.1.2.1 hW.2.2.2.2.2.2.2.1.2 (by omega) (by omega), Nat.sub_self, gbV_0, Nat.add_zero]
theorem rowsL {W : aW} (h0 : 0 < wl W) : ((nI (wl W) - 1) * 4 + nI (ws W)) * 32 = nI ((wl W - 1) * 128 + 32 * ws W) := by
  rw [show (1 : Int32) = nI 1 from rfl, pk_sub (by omega), L4, pk_mul, nI_add, L32, pk_mul]; congr 1; omega
theorem c8_countStates {W : aW} {I : Nat → Nat} (hS : mSk h) (st : cSt h W I) (h0 : 0 < wl W) (fo : ∀ c, c < wn W → fol h W I c) (K : ∀ h', mFr2 (fun a k => a = 41 ∧ k = 4) h h' → mI h' 41 4 = nI (stN W) → Q none h') : mC G kX8_countStates (d + 2) b [.inr (some 41), .inr (some 33), .inr (some 28)] h Q := by
  have hn8 := st.1.1.2.1
  have hl12 := st.1.2.2.2.2.2.2.1.2.1
  have hs3 := st.1.2.2.2.2.2.2.2.1.2
  refine qX8_countStates hS (fun h1 e1 => ?_)
  refine mloop (W := fun c h2 => mW G kX8_countStates (d + 2) b 7 [some (.inr (some 41)), some (.inr (some 33)), some (.inr (some 28)), some (.inl (nI c)), none] [] h2 Q)
    (P := fun c h2 => mFr2 (fun a k => a = 41 ∧ k = 4) h h2 ∧ mI h2 41 4 = nI (smN (fun c => cnt (thB W c (wl W - 1)) 1024) c)) (wn W) ?_ ?_ 0 h1 (by omega) ⟨by rw [e1]; exact mFr2.SI ⟨rfl, rfl⟩, by rw [e1, mI_SI_s]; rfl⟩
  · rintro c h2 hc ⟨f2, e2⟩ ih
    have hS2 := f2.1.sk hS
    have lo : ∀ a k, ¬ (a = 41 ∧ k = 4) → mI h2 a k = mI h a k := fun a k q => f2.2 _ _ q
    obtain ⟨eR, ta, -⟩ := st.1.1.2.2 c hc
    have ha := (st.1.2.1 c hc).1
    have ta2 : mT h2 (I c) = 2 := by rw [f2.1.2.1]; exact ta
    have t5 := skB hS2 (o := 5) (u := 100) (l := 1536) (by decide) ta2
    refine qX8_countStates_7 _ hS2 ⟨fun z => absurd z (by rw [lo _ _ (by omega), st.1.1.1]; exact nI_ge hc (by omega)), fun _ => ⟨vp_in_nI (by omega) (by omega), I c, by rw [nI_clamp (by omega), f2.1.2.2.2]; exact eR, ta2, qX1_rowsAt (I c) _ _ ta2 hS2 ⟨_, rfl, hS2, ta2, ?_⟩⟩⟩
    rw [lo 28 1 (by omega), lo 28 2 (by omega), st.1.2.2.2.2.2.2.1.1, st.1.2.2.2.2.2.2.2.1.1, rowsL h0]
    refine c11_bitsIn (d := d) hS2 t5.1 t5.2 (by omega) (by omega) ⟨_, rfl, hS2, ta2, fun h7 e7 => ?_⟩
    have eb : bsN h2 (I c + 5) ((wl W - 1) * 128 + 32 * ws W) = cnt (thB W c (wl W - 1)) 1024 := by
      rw [show 1024 = 32 * 32 from rfl, cnt_rows]
      unfold bsN
      refine smN_cong 32 (fun y hy => cnt_cong 32 (fun x hx => ?_))
      rw [lo _ _ (by omega)]; exact th_last st.1 h0 (fo c hc) hx hy
    rw [eb, e2, nI_add] at e7
    rw [nI_1, e7]
    exact ih _ ⟨f2.tr (mFr2.SI ⟨rfl, rfl⟩), mI_SI_s⟩
  · rintro h2 ⟨f2, e2⟩
    exact qX8_countStates_7 _ (f2.1.sk hS) ⟨fun _ => K h2 f2 e2, fun z => absurd (by rw [f2.2 _ _ (by omega), st.1.1.1]; exact nI_le (by omega) (by omega)) z⟩
def aTa (a : Nat) : Nat → Nat → Prop := fun x _ => x = 45 ∨ x = a + 3 ∨ x = a + 4
set_option maxHeartbeats 2000000 in
theorem c8_tally {W : aW} {I : Nat → Nat} {CH : aCc} {c i : Nat} (hS : mSk h) (st : cSt h W I) (h0 : 0 < wl W) (hC : chX h CH) (hc : c < wn W) (fo : fol h W I c) (hi : i < 6) (ht : bt CH.1 i = true)
    (K : ∀ h', mFr2 (aTa (I c)) h h' → cSt h' W I → flK h h' W I → (∀ j, j < 32 → mI h' 45 j = mI h 45 j + nI (acN W (CH.2 i) c (2 * j))) → Q none h') : mC G kX8_tally (d + 3) b [.inr (some 41), .inr (some (I c)), .inl (nI ((wl W - 1) * 128 + 32 * ws W)), .inl (nI i)] h Q := by
  have hn8 := st.1.1.2.1
  have hl12 := st.1.2.2.2.2.2.2.1.2.1
  have hs3 := st.1.2.2.2.2.2.2.2.1.2
  obtain ⟨⟨g1, g2, g3⟩, o1, o2, o3⟩ := hC.2.2 i hi ht
  obtain ⟨D, hD⟩ : ∃ D, D = CH.2 i := ⟨_, rfl⟩
  rw [← hD] at g1 g2 g3 o1 o2 o3
  have v6 := vp_in_nI (n := i) (N := 6) hi (by omega)
  have c6 := nI_clamp (n := i) (by omega)
  have ta := (st.1.1.2.2 c hc).2.1
  have ha := (st.1.2.1 c hc).1
  refine qX8_tally (I c) _ _ ta hS ⟨v6, ?_⟩
  rw [c6, g3]
  refine c1_sweepS (d := d) hS st hc o3 (fun h1 f1 s1 k1 v1 => ⟨rfl, f1.1.sk hS, by rw [f1.1.2.1]; exact ta, v6, v6, ?_⟩)
  have hS1 := f1.1.sk hS
  have lo1 : ∀ a k, a < 93 → mI h1 a k = mI h a k := fun a k q => f1.2 _ _ (fun z => by unfold aSweep at z; omega)
  rw [lo1 43 _ (by omega), g2]
  have fo1 := k1 c hc fo
  obtain ⟨-, ta1, hCo1, okr, la1, -⟩ := s1.1.1.2.2 c hc
  obtain ⟨lo, hlo⟩ : ∃ lo : Nat, (lo : Int) = max 0 (-D.1.2) := ⟨(max 0 (-D.1.2)).toNat, by omega⟩
  obtain ⟨la, hla⟩ : ∃ la : Nat, (la : Int) = min 31 (31 - D.1.2) := ⟨(min 31 (31 - D.1.2)).toNat, by omega⟩
  have elo : f_max 0 (-iI D.1.2) = nI lo := by
    rw [ii_neg, show (0 : Int32) = iI 0 from rfl, fmaxI ⟨by omega, by omega⟩ ⟨by omega, by omega⟩, ii_nat, hlo]
  have ela : f_min 31 (31 - iI D.1.2) = nI la := by
    rw [show (31 : Int32) = iI 31 from rfl, ii_sub, fminI ⟨by omega, by omega⟩ ⟨by omega, by omega⟩, ii_nat, hla]
  rw [elo, ela]
  obtain ⟨C, hCe⟩ : ∃ C, C = wC W c := ⟨_, rfl⟩
  have z0 : ∀ j, smN (arN W D c (2 * j)) lo = 0 := fun j => (smN_0 lo).mpr (fun y hy => arN_0 (by omega) (by omega))
  refine mloop (W := fun y h2 => mW G kX8_tally (d + 3) b 39 [some (.inr (some 41)), some (.inr (some (I c))), some (.inl (nI ((wl W - 1) * 128 + 32 * ws W))), some (.inl (nI i)), some (.inl (nI la)), some (.inl (nI y)), none, none, none, none, none] [] h2 Q)
    (P := fun y h2 => lo ≤ y ∧ mFr2 (fun x _ => x = 45) h1 h2 ∧ ∀ j, j < 32 → mI h2 45 j = mI h 45 j + nI (smN (arN W D c (2 * j)) y)) (la + 1) ?_ ?_ lo h1 (by omega) ⟨Nat.le_refl _, mFr2.rf, fun j hj => by rw [lo1 _ _ (by omega), z0 j, show nI 0 = 0 from rfl]; simp⟩
  · rintro y h2 hy ⟨hly, f2, c2⟩ ih
    have hS2 := f2.1.sk hS1
    have lo2 : ∀ a k, a ≠ 45 → mI h2 a k = mI h1 a k := fun a k q => f2.2 _ _ q
    have ta2 : mT h2 (I c) = 2 := by rw [f2.1.2.1]; exact ta1
    obtain ⟨Y, hY⟩ : ∃ Y : Nat, (Y : Int) = y + D.1.2 := ⟨((y : Int) + D.1.2).toNat, by omega⟩
    have hY32 : Y < 32 := by omega
    have eY : nI y + iI D.1.2 = nI Y := by rw [ii_nat y, ii_add, ii_nat Y, hY]
    have eN : nI ((wl W - 1) * 128 + 32 * ws W) + nI y = nI ((wl W - 1) * 128 + 32 * ws W + y) := nI_add _ _
    refine qX8_tally_39 (I c) _ _ _ _ ta2 hS2 ⟨fun z => absurd z (nI_nlt (by omega) (by omega)), fun _ => ?_⟩
    rw [c6, lo2 43 _ (by omega), lo1 43 _ (by omega), g2, lo2 44 _ (by omega), lo1 44 _ (by omega), g3, lo2 42 _ (by omega), lo1 42 _ (by omega), g1, eY, eN, nI_clamp (show (wl W - 1) * 128 + 32 * ws W + y < 2 ^ 31 by omega), nI_clamp (show Y < 2 ^ 31 by omega), lo2 (I c + 5) _ (by omega), lo2 (I c + 1) _ (by omega), L1024, L32, pk_mul, pk_mul, nI_add]
    refine ⟨vp_in_nI (by omega) (by omega), v6, v6, vp_in_nI (by omega) (by omega), v6, v6, ?_⟩
    obtain ⟨row, hrow⟩ : ∃ row, row = f_X11_moved (mI h1 (I c + 5) ((wl W - 1) * 128 + 32 * ws W + y)) (iI D.1.1) &&& m_not (mI h1 (I c + 1) Y) := ⟨_, rfl⟩
    rw [← hrow]
    have hrb : ∀ x, x < 32 → (bt row x = true ↔ ((∃ sx : Nat, sx < 32 ∧ (x : Int) = sx + D.1.1 ∧ thB W c (wl W - 1) (32 * y + sx) = true) ∧ coLand (wC W c) x Y = false)) := fun x hx => by
      rw [hrow, bt_and, Bool.and_eq_true, bt_moved (by omega) hx, bt_not _ hx, (la1 x Y hx hY32).1]
      constructor
      · rintro ⟨⟨sx, q1, q2, q3⟩, q4⟩
        rw [th_last s1.1 h0 fo1 q1 (by omega)] at q3
        exact ⟨⟨sx, q1, q2, q3⟩, by simpa using q4⟩
      · rintro ⟨⟨sx, q1, q2, q3⟩, q4⟩
        rw [← th_last s1.1 h0 fo1 q1 (by omega)] at q3
        exact ⟨⟨sx, q1, q2, q3⟩, by rw [q4]; rfl⟩
    -- this row's count, bit by bit
    have rc : ∀ a, cnt (fun x => bt row x && awB (wC W c) D.2 x Y a) 32 = arN W D c a y := fun a => by
      refine cnt_tr (P := fun x => thB W c (wl W - 1) (32 * y + x) && aaB (wC W c) D (32 * y + x) a) (s := D.1.1) (by omega) (fun x hx q => ?_) (fun x' hx' => ?_)
      · rw [Bool.and_eq_true] at q
        unfold aaB at q
        rw [Bool.and_eq_true] at q
        have := (mvB_t.mp q.2.1).1.1
        unfold tX at this
        rw [show (32 * y + x) % 32 = x by omega] at this; exact this
      · rw [Bool.and_eq_true, hrb x' hx']
        constructor
        · rintro ⟨⟨⟨sx, q1, q2, q3⟩, q4⟩, q5⟩
          refine ⟨sx, q1, q2, ?_⟩
          have e1 : tX D (32 * y + sx) = x' := by unfold tX; rw [show (32 * y + sx) % 32 = sx by omega]; omega
          have e2 : tY D (32 * y + sx) = Y := by unfold tY; rw [show (32 * y + sx) / 32 = y by omega]; omega
          have e3 : (tX D (32 * y + sx)).toNat = x' := by rw [e1]; rfl
          have e4 : (tY D (32 * y + sx)).toNat = Y := by rw [e2]; rfl
          rw [q3, Bool.true_and]
          unfold aaB
          rw [e3, e4, q5, Bool.and_true]
          refine mvB_t.mpr ⟨⟨by omega, by omega⟩, by rw [e3, e4]; exact q4⟩
        · rintro ⟨sx, q1, q2, q3⟩
          rw [Bool.and_eq_true] at q3
          have e1 : tX D (32 * y + sx) = x' := by unfold tX; rw [show (32 * y + sx) % 32 = sx by omega]; omega
          have e2 : tY D (32 * y + sx) = Y := by unfold tY; rw [show (32 * y + sx) / 32 = y by omega]; omega
          have e3 : (tX D (32 * y + sx)).toNat = x' := by rw [e1]; rfl
          have e4 : (tY D (32 * y + sx)).toNat = Y := by rw [e2]; rfl
          have q4 := q3.2
          unfold aaB at q4
          rw [Bool.and_eq_true, e3, e4] at q4
          have q5 := (mvB_t.mp q4.1).2
          rw [e3, e4] at q5
          exact ⟨⟨⟨sx, q1, q2, q3.1⟩, q5⟩, q4.2⟩
    have lp : ∀ (fu kk : Nat) (left : Int32) (h3 : mH), kk + fu = 32 → cnt (bt left) 32 ≤ fu → (∀ x, x < 32 → bt left x = true → bt row x = true) → mFr2 (fun x _ => x = 45) h1 h3 → (∀ j, j < 32 → mI h3 45 j = mI h2 45 j + nI (cnt (fun x => (bt row x && !bt left x) && awB (wC W c) D.2 x Y (2 * j)) 32)) →
        mW G kX8_tally (d + 3) b 111 [some (.inr (some 41)), some (.inr (some (I c))), some (.inl (nI ((wl W - 1) * 128 + 32 * ws W))), some (.inl (nI i)), some (.inl (nI la)), some (.inl (nI y)), some (.inl left), some (.inl (nI (D.2 * 1024 + Y * 32))), some (.inl (nI kk)), none, none] [] h3 Q := by
      intro fu
      induction fu with
      | zero =>
        intro kk left h3 hkf hf hsub f3 c3
        have hz : left = 0 := by
          apply bt_ext
          intro x hx
          rw [bt_0]; exact (cnt_z 32).mp (by omega) x hx
        refine qX8_tally_111 (I c) _ _ _ _ _ _ _ (by rw [f3.1.2.1]; exact ta1) (f3.1.sk hS1) ⟨fun _ => ?_, fun z => absurd hz z⟩
        rw [nI_1]
        refine ih h3 ⟨by omega, f3, fun j hj => ?_⟩
        rw [c3 j hj, c2 j hj, hz, cnt_cong (q := fun x => bt row x && awB (wC W c) D.2 x Y (2 * j)) 32 (fun x _ => by rw [bt_0]; simp), rc]
        rw [show smN (arN W D c (2 * j)) (y + 1) = smN (arN W D c (2 * j)) y + arN W D c (2 * j) y from rfl, ← nI_add, Int32.add_assoc]
      | succ fu ihf =>
        intro kk left h3 hkf hf hsub f3 c3
        have hS3 := f3.1.sk hS1
        have ta3 : mT h3 (I c) = 2 := by rw [f3.1.2.1]; exact ta1
        by_cases hz : left = 0
        · refine qX8_tally_111 (I c) _ _ _ _ _ _ _ ta3 hS3 ⟨fun _ => ?_, fun z => absurd hz z⟩
          rw [nI_1]
          refine ih h3 ⟨by omega, f3, fun j hj => ?_⟩
          rw [c3 j hj, c2 j hj, hz, cnt_cong (q := fun x => bt row x && awB (wC W c) D.2 x Y (2 * j)) 32 (fun x _ => by rw [bt_0]; simp), rc]
          rw [show smN (arN W D c (2 * j)) (y + 1) = smN (arN W D c (2 * j)) y + arN W D c (2 * j) y from rfl, ← nI_add, Int32.add_assoc]
        · obtain ⟨p, hp, ep, hb, -, hl⟩ := low_n left hz
          have hrp := hsub p hp hb
          have wat : coLand (wC W c) p Y = false := ((hrb p hp).mp hrp).2
          have eview : mI h3 (I c + 3) (D.2 * 1024 + Y * 32 + p) = vwC (wC W c) D.2 p Y := by
            rw [f3.2 _ _ (by omega)]; exact v1 p Y hp hY32
          have es := vw_es okr (q := D.2) hp hY32 wat
          have em := (vw_echo okr (q := D.2) hp hY32 wat).2
          have eb := ecC_b (C := wC W c) (q := D.2) hp hY32
          obtain ⟨e, he⟩ : ∃ e, e = ecC (wC W c) D.2 p Y / 2 := ⟨_, rfl⟩
          have he2 : ecC (wC W c) D.2 p Y = 2 * e := by omega
          rw [← he] at es
          have i0 : nI e ≤ 0 ↔ e = 0 := by rw [show (0 : Int32) = nI 0 from rfl, nI_leI (by omega) (by omega)]; omega
          have ve := vp_in_nI (n := e) (N := 32) (by omega) (by omega)
          have v0 := vp_in_nI (n := 0) (N := 32) (by omega) (by omega)
          have less : cnt (bt (left &&& (left - 1))) 32 ≤ fu := by
            have h1 := cnt_split (p := bt left) (u := p) 32 hp
            rw [hb, if_pos rfl] at h1
            rw [cnt_cong (q := fun i => bt left i && !decide (i = p)) 32 (fun x hx => hl x hx)]
            omega
          have next : ∀ h4, mFr2 (fun x _ => x = 45) h3 h4 → (∀ j, j < 32 → mI h4 45 j = mI h3 45 j + b2i (awB (wC W c) D.2 p Y (2 * j))) → mW G kX8_tally (d + 3) b 111 [some (.inr (some 41)), some (.inr (some (I c))), some (.inl (nI ((wl W - 1) * 128 + 32 * ws W))), some (.inl (nI i)), some (.inl (nI la)), some (.inl (nI y)), some (.inl (left &&& (left - 1))), some (.inl (nI (D.2 * 1024 + Y * 32))), some (.inl (nI (kk + 1))), none, none] [] h4 Q := by
            intro h4 f4 c4
            refine ihf (kk + 1) (left &&& (left - 1)) h4 (by omega) less (fun x hx q => ?_) (f3.tr f4) (fun j hj => ?_)
            · rw [hl x hx, Bool.and_eq_true] at q
              exact hsub x hx q.1
            · rw [c4 j hj, c3 j hj, cnt_low (g := fun x => awB (wC W c) D.2 x Y (2 * j)) hp hb hrp hl]
              cases hg : awB (wC W c) D.2 p Y (2 * j) with
              | true => rw [if_pos rfl, ← nI_add, Int32.add_assoc]; rfl
              | false => rw [if_neg (by decide), Nat.add_zero, show b2i false = 0 from rfl]; simp
          refine qX8_tally_111 (I c) _ _ _ _ _ _ _ ta3 hS3 ⟨fun z => absurd z hz, fun _ => ⟨fun z => absurd z (nI_ge (b := 32) (by omega) (by omega)), fun _ => ?_⟩⟩
          rw [nI_1, ep, nI_add, nI_clamp (show D.2 * 1024 + Y * 32 + p < 2 ^ 31 by omega), eview, es, em, i0, nI_clamp (show e < 2 ^ 31 by omega)]
          refine ⟨vp_in_nI (by omega) (by omega), fun e0 => ⟨fun zs => ?_, fun zs => ⟨v0, v0, fun h4 e4 => ?_⟩⟩, fun e0 => ⟨ve, ve, fun h8 e8 => ⟨fun zs => ?_, fun zs => ⟨v0, v0, fun h11 e11 => ?_⟩⟩⟩⟩
          · refine next h3 mFr2.rf (fun j hj => ?_)
            have : awB (wC W c) D.2 p Y (2 * j) = false := by
              unfold awB
              by_cases j0 : 2 * j = 0
              · rw [if_pos j0]; exact b2i_0.mp zs
              · rw [if_neg j0, decide_eq_false (by omega)]
            rw [this, show b2i false = 0 from rfl]; simp
          · rw [e4]
            refine next _ (mFr2.SI rfl) (fun j hj => ?_)
            have hsi : siC (wC W c) D.2 p Y = true := by
              cases hb : siC (wC W c) D.2 p Y with
              | true => rfl
              | false => exact absurd (b2i_0.mpr hb) zs
            unfold awB
            by_cases j0 : j = 0
            · rw [j0, mI_SI_s, if_pos rfl, hsi]; rfl
            · rw [mI_SI_k j0, if_neg (by omega), decide_eq_false (by omega), show b2i false = 0 from rfl]; simp
          · rw [e8]
            refine next _ (mFr2.SI rfl) (fun j hj => ?_)
            unfold awB
            by_cases j0 : j = 0
            · rw [mI_SI_k (by omega), if_pos (by omega), b2i_0.mp zs, show b2i false = 0 from rfl]; simp
            · rw [if_neg (by omega)]
              by_cases je : j = e
              · rw [je, mI_SI_s, decide_eq_true he2]; rfl
              · rw [mI_SI_k je, decide_eq_false (by omega), show b2i false = 0 from rfl]; simp
          · have hsi : siC (wC W c) D.2 p Y = true := by
              cases hb : siC (wC W c) D.2 p Y with
              | true => rfl
              | false => exact absurd (b2i_0.mpr hb) zs
            rw [e11, e8]
            refine next _ ((mFr2.SI (A := fun x _ => x = 45) rfl).tr (mFr2.SI rfl)) (fun j hj => ?_)
            unfold awB
            by_cases j0 : j = 0
            · rw [j0, mI_SI_s, if_pos rfl, hsi, mI_SI_k (by omega)]; rfl
            · rw [mI_SI_k j0, if_neg (by omega)]
              by_cases je : j = e
              · rw [je, mI_SI_s, decide_eq_true he2]; rfl
              · rw [mI_SI_k je, decide_eq_false (by omega), show b2i false = 0 from rfl]; simp
    exact lp 32 0 row h2 rfl (cnt_le _ 32) (fun x _ q => q) f2 (fun j hj => by rw [(cnt_z 32).mpr (fun x _ => by cases bt row x <;> simp), show nI 0 = 0 from rfl]; simp)
  · rintro h2 ⟨-, f2, c2⟩
    have f12 : mFr2 (aTa (I c)) h h2 := (f1.wk (fun x k z => by unfold aSweep at z; unfold aTa; omega)).tr (f2.wk (fun x k z => Or.inl z))
    refine qX8_tally_39 (I c) _ _ _ _ (by rw [f2.1.2.1]; exact ta1) (f2.1.sk hS1) ⟨fun _ => K h2 f12 (s1.ca (f2.wk (fun x k z => by unfold aCa; omega))) (k1.tr (flK.lo s1.1 f2 (fun x k q z => by omega))) (fun j hj => ?_), fun z => absurd (nI_lt (by omega) (by omega)) z⟩
    rw [c2 j hj, ← hD, acN_r]
    have : smN (arN W D c (2 * j)) 32 = smN (arN W D c (2 * j)) (la + 1) := by
      have key : ∀ n, la + 1 ≤ n → n ≤ 32 → smN (arN W D c (2 * j)) n = smN (arN W D c (2 * j)) (la + 1) := by
        intro n
        induction n with
        | zero => intro q; omega
        | succ n ihn =>
          intro q1 q2
          by_cases e : la + 1 = n + 1
          · rw [e]
          · show smN (arN W D c (2 * j)) n + arN W D c (2 * j) n = _
            rw [ihn (by omega) (by omega), arN_0 (by omega) (by omega), Nat.add_zero]
      exact key 32 (by omega) (Nat.le_refl _)
    rw [this]
end
