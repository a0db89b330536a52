/-! where a note holds: the class's memory of it -/
def ntX (h : mH) (v : Nat) (t : aNt) : Prop := mT h v = 8 ∧ mI h v 0 = b2i t.1 ∧ mI h v 1 = nI t.2.1 ∧ mI h v 2 = nI t.2.2.1 ∧ mI h v 3 = nI t.2.2.2
/-- what a row of a note's memory says is so -/
def kcR (h : mH) (v r : Nat) (hd : Nat → Bool) : Prop := ∀ x, x < 32 → bt (mI h (v + 2) r) x = (bt (mI h (v + 1) r) x && hd x)
def aMid (a : Nat) : Nat → Nat → Prop := fun x k => aEr x k ∨ x = a + 3 ∨ x = a + 4
def aHo (v a r : Nat) : Nat → Nat → Prop := fun x k => ((x = v + 1 ∨ x = v + 2) ∧ k = r) ∨ aMid a x k
theorem skB {h : mH} (hS : mSk h) {a t o u l : Nat} (hq : (t, o, u, l) ∈ skBTL) (ht : mT h a = t) : mT h (a + o) = u ∧ mL h (a + o) = l := hS.2.2.2.1 _ hq a ht
theorem skB2 {h : mH} (hS : mSk h) {a : Nat} (ht : mT h a = 2) : ∀ j, 1 ≤ j → j ≤ 8 → (mT h (a + j) = 100 ∨ mT h (a + j) = 101) := by
  intro j h1 h8
  rcases (show j = 1 ∨ j = 2 ∨ j = 3 ∨ j = 4 ∨ j = 5 ∨ j = 6 ∨ j = 7 ∨ j = 8 by omega) with rfl | rfl | rfl | rfl | rfl | rfl | rfl | rfl
  · exact Or.inl (skB hS (l := 32) (by decide) ht).1
  · exact Or.inl (skB hS (l := 32) (by decide) ht).1
  · exact Or.inl (skB hS (l := 4096) (by decide) ht).1
  · exact Or.inr (skB hS (l := 4) (by decide) ht).1
  · exact Or.inl (skB hS (l := 1536) (by decide) ht).1
  · exact Or.inl (skB hS (l := 16) (by decide) ht).1
  · exact Or.inl (skB hS (l := 16) (by decide) ht).1
  · exact Or.inl (skB hS (l := 16) (by decide) ht).1
theorem skB8 {h : mH} (hS : mSk h) {a : Nat} (ht : mT h a = 8) : ∀ j, 1 ≤ j → j ≤ 2 → mT h (a + j) = 100 := by
  intro j h1 h8
  rcases (show j = 1 ∨ j = 2 by omega) with rfl | rfl
  · exact (skB hS (l := 256) (by decide) ht).1
  · exact (skB hS (l := 256) (by decide) ht).1
theorem skB6 {h : mH} (hS : mSk h) {a : Nat} (ht : mT h a = 6) : mT h (a + 1) = 112 := (skB hS (l := 6) (by decide) ht).1
/-- a note's cells and a coast's are apart -/
theorem ap82 {h : mH} (hS : mSk h) {v a : Nat} (tv : mT h v = 8) (ta : mT h a = 2) : ∀ i j, i ≤ 2 → j ≤ 8 → v + i ≠ a + j := by
  intro i j hi hj e
  rcases (show i = j ∨ i < j ∨ j < i by omega) with q | q | q
  · have : v = a := by omega
    rw [this, ta] at tv; omega
  · have : v = a + (j - i) := by omega
    rw [this] at tv
    rcases skB2 hS ta (j - i) (by omega) (by omega) with z | z <;> omega
  · have : a = v + (i - j) := by omega
    rw [this, skB8 hS tv (i - j) (by omega) (by omega)] at ta; omega
theorem ap62 {h : mH} (hS : mSk h) {v a : Nat} (tv : mT h v = 6) (ta : mT h a = 2) : ∀ i j, i ≤ 1 → j ≤ 8 → v + i ≠ a + j := by
  intro i j hi hj e
  rcases (show i = j ∨ i < j ∨ j < i by omega) with q | q | q
  · have : v = a := by omega
    rw [this, ta] at tv; omega
  · have : v = a + (j - i) := by omega
    rw [this] at tv
    rcases skB2 hS ta (j - i) (by omega) (by omega) with z | z <;> omega
  · have h1 : a = v + 1 := by omega
    have := skB6 hS tv
    rw [← h1, ta] at this; omega
theorem ap68 {h : mH} (hS : mSk h) {v a : Nat} (tv : mT h v = 6) (ta : mT h a = 8) : ∀ i j, i ≤ 1 → j ≤ 2 → v + i ≠ a + j := by
  intro i j hi hj e
  rcases (show i = j ∨ i < j ∨ j < i by omega) with q | q | q
  · have : v = a := by omega
    rw [this, ta] at tv; omega
  · have : v = a + (j - i) := by omega
    rw [this] at tv
    have z := skB8 hS ta (j - i) (by omega) (by omega)
    omega
  · have h1 : a = v + 1 := by omega
    have := skB6 hS tv
    rw [← h1, ta] at this; omega
theorem soX.fr {A : Nat → Nat → Prop} {h h' : mH} {m : Nat} {U : aSo} (f : mFr2 A h h') (hA : ∀ a k, 12 ≤ a → a ≤ 15 → ¬ A a k) (hB : ¬ A 11 4) (hU : soX h m U) : soX h' m U :=
  ⟨by rw [f.2 _ _ hB]; exact hU.1, hU.2.1, fun i hi => ⟨by
    rw [f.2 12 _ (hA _ _ (by omega) (by omega)), f.2 13 _ (hA _ _ (by omega) (by omega)), f.2 14 _ (hA _ _ (by omega) (by omega)), f.2 15 _ (hA _ _ (by omega) (by omega))]
    exact (hU.2.2 i hi).1, (hU.2.2 i hi).2⟩⟩
section
variable {G : mG} {d : Nat} {b : Nat × Nat} {h : mH} {Q : Option mV → mH → Prop}
set_option maxHeartbeats 4000000 in
theorem c2_holdsIn {v lid a c y m : Nat} {C : aCo} {U : aSo} {L : aLw} {l : aLi} {t : aNt} {need : Int32} (hS : mSk h) (hn : ntX h v t) (tl : mT h lid = 6) (e3 : mI h lid 3 = nI (jH l)) (e4 : mI h lid 4 = nI (jW l)) (hv93 : 93 ≤ v) (ha93 : 93 ≤ a) (hC : cCo h a C) (ec : mI h a 0 = nI c) (hc : c < 8) (hy : y < 32) (okt : okNt m t) (hU : soX h m U) (lw : lwX h L) (ok : okLw L)
    (hwat : ∀ x, x < 32 → bt need x = true → coLand C x y = false) (hk : kcR h v (c * 32 + y) (fun x => hdB L U C l t x y))
    (K : ∀ h' w, mFr2 (aHo v a (c * 32 + y)) h h' → (∀ x, x < 32 → bt need x = true → bt w x = hdB L U C l t x y) → kcR h' v (c * 32 + y) (fun x => hdB L U C l t x y) → cSw h' a C → Q (some (.inl w)) h') : mC G kX2_holdsIn (d + 3) b [.inr (some 11), .inr (some v), .inr (some lid), .inr (some a), .inl (nI y), .inl need] h Q := by
  obtain ⟨tv, n0, n1, n2, n3⟩ := hn
  obtain ⟨ta, hX, okr, hL, hsw⟩ := hC
  have ap := ap82 hS tv ta
  have hm6 := hU.2.1
  have er : nI c * 32 + nI y = nI (c * 32 + y) := by rw [L32, pk_mul, nI_add]
  have v256 : vp_in (nI (c * 32 + y)) 256 := vp_in_nI (by omega) (by omega)
  obtain ⟨AS, hAS⟩ : ∃ AS, AS = need &&& m_not (mI h (v + 1) (c * 32 + y)) := ⟨_, rfl⟩
  have bAS : ∀ x, x < 32 → bt AS x = (bt need x && !bt (mI h (v + 1) (c * 32 + y)) x) := fun x hx => by rw [hAS, bt_and, bt_not _ hx]
  -- the end of the loop
  have fin : ∀ h1 found (kk : Int32), mFr2 (aMid a) h h1 → cSw h1 a C → (∀ x, x < 32 → bt found x = (bt AS x && hdB L U C l t x y)) → mW G kX2_holdsIn (d + 3) b 80 [some (.inr (some 11)), some (.inr (some v)), none, some (.inr (some a)), some (.inl (nI y)), none, some (.inl (nI (c * 32 + y))), some (.inl AS), some (.inl found), some (.inl 0), some (.inl kk), none, none] [] h1 Q := by
    intro h1 found kk f1 s1 hf
    have hS1 := f1.1.sk hS
    have nk : ∀ k, ¬ aMid a (v + 1) k := fun k z => by
      have := ap 1 3 (by omega) (by omega); have := ap 1 4 (by omega) (by omega)
      unfold aMid aEr aEar at z; omega
    have nh : ∀ k, ¬ aMid a (v + 2) k := fun k z => by
      have := ap 2 3 (by omega) (by omega); have := ap 2 4 (by omega) (by omega)
      unfold aMid aEr aEar at z; omega
    refine qX2_holdsIn_80 v a _ _ _ _ _ _ (by rw [f1.1.2.1]; exact tv) (by rw [f1.1.2.1]; exact ta) hS1 ⟨fun _ => ⟨v256, v256, fun h3 e3 => ⟨v256, v256, fun h6 e6 => ⟨v256, ?_⟩⟩⟩, fun z => absurd rfl z⟩
    rw [nI_clamp (by omega), f1.2 _ _ (nk _)] at e3
    rw [nI_clamp (by omega)] at e6
    have e6b : mI h3 (v + 2) (c * 32 + y) = mI h (v + 2) (c * 32 + y) := by rw [e3, mI_SI_a (by omega), f1.2 _ _ (nh _)]
    rw [e6b] at e6
    have ek : mI h6 (v + 1) (c * 32 + y) = mI h (v + 1) (c * 32 + y) ||| AS := by rw [e6, mI_SI_a (by omega), e3, mI_SI_s]
    have eh : mI h6 (v + 2) (c * 32 + y) = mI h (v + 2) (c * 32 + y) ||| found := by rw [e6, mI_SI_s]
    have f3 : mFr2 (aHo v a (c * 32 + y)) h1 h3 := by rw [e3]; exact mFr2.SI (Or.inl ⟨Or.inl rfl, rfl⟩)
    have f6 : mFr2 (aHo v a (c * 32 + y)) h3 h6 := by rw [e6]; exact mFr2.SI (Or.inl ⟨Or.inr rfl, rfl⟩)
    have s6 : cSw h6 a C := by
      have g : ∀ j k, j = 3 ∨ j = 4 → mI h6 (a + j) k = mI h1 (a + j) k := fun j k hj => by
        have := ap 1 j (by omega) (by omega); have := ap 2 j (by omega) (by omega)
        rw [e6, mI_SI_a (by omega), e3, mI_SI_a (by omega)]
      intro q hq n0
      rw [g 4 q (Or.inr rfl)] at n0
      intro x y hx hy
      rw [g 3 _ (Or.inl rfl)]
      exact s1 q hq n0 x y hx hy
    rw [nI_clamp (by omega)]
    refine K h6 _ (((f1.wk (fun x k z => Or.inr z)).tr f3).tr f6) (fun x hx hb => ?_) (fun x hx => ?_) s6
    · rw [eh, bt_or, hk x hx, hf x hx, bAS x hx, hb]
      cases bt (mI h (v + 1) (c * 32 + y)) x <;> simp
    · rw [eh, ek, bt_or, bt_or, hk x hx, hf x hx]
      cases bt (mI h (v + 1) (c * 32 + y)) x <;> cases bt AS x <;> simp
  have key : ∀ (left found : Int32) (p0 : Nat), (∀ x, x < 32 → bt left x = (bt AS x && decide (p0 ≤ x))) → (∀ x, x < 32 → bt found x = (bt AS x && (decide (x < p0) && hdB L U C l t x y))) → left = 0 → (∀ x, x < 32 → bt found x = (bt AS x && hdB L U C l t x y)) := by
    intro left found p0 h1 h2 h3 x hx
    rw [h2 x hx]
    have := h1 x hx
    rw [h3, bt_0] at this
    by_cases z : x < p0
    · simp [z]
    · have z2 : p0 ≤ x := by omega
      rw [decide_eq_true z2, Bool.and_true] at this
      rw [← this]; rfl
  have nxt : ∀ (left found w : Int32) (p0 p : Nat), p < 32 → (∀ x, x < 32 → bt left x = (bt AS x && decide (p0 ≤ x))) → (∀ x, x < 32 → bt found x = (bt AS x && (decide (x < p0) && hdB L U C l t x y))) → bt left p = true → (∀ i, i < p → bt left i = false) → w = (if hdB L U C l t p y = true then m_shl 1 (nI p) else 0) → (p0 ≤ p) ∧ (∀ x, x < 32 → bt (found ||| w) x = (bt AS x && (decide (x < p + 1) && hdB L U C l t x y))) ∧ ∀ x, x < 32 → (bt left x && !decide (x = p)) = (bt AS x && decide (p + 1 ≤ x)) := by
    intro left found w p0 p hp h1 h2 h3 h4 hw
    have a1 := h1 p hp
    rw [h3] at a1
    have a2 : bt AS p = true ∧ p0 ≤ p := by
      have := a1.symm
      simp at this; exact this
    have bw : ∀ x, x < 32 → bt w x = (decide (x = p) && hdB L U C l t p y) := fun x hx => by
      rw [hw]
      cases hdB L U C l t p y with
      | true =>
        rw [if_pos rfl, bt_shl p hp _ hx, bt_one (by omega)]
        by_cases e : x = p
        · simp [e]
        · by_cases e2 : p ≤ x
          · have : ¬ x - p = 0 := by omega
            simp [e, this]
          · simp [e, e2]
      | false => rw [if_neg (by decide), bt_0]; simp
    have hgap : ∀ x, x < p → p0 ≤ x → bt AS x = false := fun x hx h0 => by
      have := h1 x (by omega)
      rw [h4 x hx, decide_eq_true h0, Bool.and_true] at this
      exact this.symm
    refine ⟨a2.2, fun x hx => ?_, fun x hx => ?_⟩
    · rw [bt_or, h2 x hx, bw x hx]
      rcases (show x < p0 ∨ (p0 ≤ x ∧ x < p) ∨ x = p ∨ p < x by omega) with z | z | z | z
      · have e1 : x < p + 1 := by omega
        have e2 : ¬ x = p := by omega
        simp [z, e1, e2]
      · have e1 : ¬ x < p0 := by omega
        have e2 : ¬ x = p := by omega
        rw [hgap x z.2 z.1]; simp [e2]
      · have e1 : ¬ x < p0 := by omega
        rw [z, a2.1]
        have e1 : ¬ p < p0 := by omega
        simp [e1]
      · have e1 : ¬ x < p0 := by omega
        have e2 : ¬ x = p := by omega
        have e3 : ¬ x < p + 1 := by omega
        simp [e1, e2, e3]
    · rw [h1 x hx]
      rcases (show x < p0 ∨ (p0 ≤ x ∧ x < p) ∨ x = p ∨ p < x by omega) with z | z | z | z
      · have e1 : ¬ p0 ≤ x := by omega
        have e2 : ¬ p + 1 ≤ x := by omega
        simp [e1, e2]
      · rw [hgap x z.2 z.1]; simp
      · simp [z]
      · have e1 : p0 ≤ x := by omega
        have e2 : p + 1 ≤ x := by omega
        have e3 : ¬ x = p := by omega
        simp [e1, e2, e3]
  have start1 : ∀ x, x < 32 → bt AS x = (bt AS x && decide (0 ≤ x)) := fun x _ => by simp
  have start2 : ∀ x, x < 32 → bt (0 : Int32) x = (bt AS x && (decide (x < 0) && hdB L U C l t x y)) := fun x _ => by rw [bt_0]; simp
  have hAw : ∀ x, x < 32 → bt AS x = true → coLand C x y = false := fun x hx hb => by
    rw [bAS x hx] at hb
    simp at hb
    exact hwat x hx hb.1
  have zero : AS = 0 → mW G kX2_holdsIn (d + 3) b 80 [some (.inr (some 11)), some (.inr (some v)), none, some (.inr (some a)), some (.inl (nI y)), none, some (.inl (nI (c * 32 + y))), some (.inl AS), some (.inl 0), some (.inl AS), some (.inl 0), none, none] [] h Q := by
    intro z
    have := fin h 0 0 mFr2.rf hsw (fun x hx => by rw [z, bt_0]; rfl)
    rw [z] at this ⊢
    exact this
  refine qX2_holdsIn v lid a _ _ tv tl ta hS ?_
  rw [ec, er, nI_clamp (by omega), ← hAS, n0, n1, e3, e4]
  cases ht : t.1 with
  | true =>
    obtain ⟨u1, u2, u3⟩ := okt.1 ht
    have lp : ∀ h1, mFr2 (aMid a) h h1 → cVw h1 a C t.2.1 → cSw h1 a C → ∀ (s p0 kk : Nat) (left found : Int32), 32 - p0 ≤ s → kk ≤ p0 → (∀ x, x < 32 → bt left x = (bt AS x && decide (p0 ≤ x))) → (∀ x, x < 32 → bt found x = (bt AS x && (decide (x < p0) && hdB L U C l t x y))) → mW G kX2_holdsIn (d + 3) b 80 [some (.inr (some 11)), some (.inr (some v)), none, some (.inr (some a)), some (.inl (nI y)), none, some (.inl (nI (c * 32 + y))), some (.inl AS), some (.inl found), some (.inl left), some (.inl (nI kk)), none, none] [] h1 Q := by
      intro h1 f1 vw1 s1 s
      have hS1 := f1.1.sk hS
      have tv1 : mT h1 v = 8 := by rw [f1.1.2.1]; exact tv
      have ta1 : mT h1 a = 2 := by rw [f1.1.2.1]; exact ta
      have nv : ∀ k, ¬ aMid a v k := fun k z => by
        have := ap 0 3 (by omega) (by omega); have := ap 0 4 (by omega) (by omega)
        unfold aMid aEr aEar at z; omega
      have m0 : mI h1 v 0 = 1 := by rw [f1.2 _ _ (nv _), n0, ht]; rfl
      have m1 : mI h1 v 1 = nI t.2.1 := by rw [f1.2 _ _ (nv _)]; exact n1
      have m2 : mI h1 v 2 = nI t.2.2.1 := by rw [f1.2 _ _ (nv _)]; exact n2
      induction s with
      | zero =>
        intro p0 kk left found hs hkk hl hf
        have hz : left = 0 := bt_ext (fun i hi => by rw [hl i hi, bt_0]; simp; omega)
        rw [hz]
        exact fin h1 found _ f1 s1 (key left found p0 hl hf hz)
      | succ s ih =>
        intro p0 kk left found hs hkk hl hf
        by_cases hz : left = 0
        · rw [hz]
          exact fin h1 found _ f1 s1 (key left found p0 hl hf hz)
        obtain ⟨p, g1, g2, g3, g4, g5⟩ := low_n left hz
        have hASp : bt AS p = true := by have := hl p g1; rw [g3] at this; have := this.symm; simp at this; exact this.1
        have hkp : p0 ≤ p := by have := hl p g1; rw [g3] at this; have := this.symm; simp at this; exact this.2
        have hwp := hAw p g1 hASp
        have hec : ecC C t.2.1 p y < 1000 := by
          have a1 := fcS_le C t.2.1 (rm4 t.2.1 p y) p y
          have a2 := rm4_31 (q := t.2.1) (x := p) (y := y) g1 hy
          unfold ecC; split <;> first | omega | (split <;> omega)
        obtain ⟨w1, w2⟩ := vw_echo okr (q := t.2.1) g1 hy hwp
        have ei : nI t.2.1 * 1024 + nI y * 32 + nI p = nI (vwI t.2.1 p y) := by
          rw [L1024, L32, pk_mul, pk_mul, nI_add, nI_add]; rfl
        have hib : vwI t.2.1 p y < 4096 := by unfold vwI; omega
        have go : ∀ x18, x18 = b2i (hdB L U C l t p y) → ∀ w19 : Int32, w19 = (if x18 = 0 then 0 else (m_shl 1 (nI p))) → mW G kX2_holdsIn (d + 3) b 80 [some (.inr (some 11)), some (.inr (some v)), none, some (.inr (some a)), some (.inl (nI y)), none, some (.inl (nI (c * 32 + y))), some (.inl AS), some (.inl (found ||| w19)), some (.inl (left &&& (left - 1))), some (.inl (nI (kk + 1))), none, none] [] h1 Q := by
          intro x18 ex w19 ew
          have ew2 : w19 = (if hdB L U C l t p y = true then m_shl 1 (nI p) else 0) := by
            rw [ew, ex]
            cases hdB L U C l t p y <;> rfl
          obtain ⟨q1, q2, q3⟩ := nxt left found w19 p0 p g1 hl hf g3 g4 ew2
          exact ih (p + 1) (kk + 1) _ _ (by omega) (by omega) (fun x hx => by rw [g5 x hx]; exact q3 x hx) q2
        refine qX2_holdsIn_80 v a _ _ _ _ _ _ tv1 ta1 hS1 ⟨fun z => absurd z hz, fun _ => ⟨fun z => absurd z (nI_ge (b := 32) (by omega) (by omega)), fun _ => ⟨fun z => absurd (m0.symm.trans z) (by decide), fun _ => ?_⟩⟩⟩
        rw [nI_1, m1, g2, ei, nI_clamp (by omega), vw1 p y g1 hy]
        refine ⟨vp_in_nI hib (by omega), qX7_fitsView v _ tv1 hS1 ⟨fun z w ew => ⟨_, rfl, hS1, tv1, ta1, go _ ?_⟩, fun z => ⟨_, rfl, hS1, tv1, ta1, go _ ?_⟩⟩⟩
        · rw [m2] at z ew
          rw [w1] at ew
          have e1 : nI (ecC C t.2.1 p y) = nI t.2.2.1 ↔ ecC C t.2.1 p y = t.2.2.1 := nI_eq (by omega) (by omega)
          have e0 : ¬ t.2.2.1 = 0 := fun q => z (by rw [q]; rfl)
          unfold hdB
          rw [ht, if_pos rfl, if_neg e0, ew]
          by_cases hh : ecC C t.2.1 p y = t.2.2.1
          · rw [if_neg (fun q => q (e1.mpr hh)), decide_eq_true hh]; rfl
          · rw [if_pos (fun q => hh (e1.mp q)), decide_eq_false hh]; rfl
        · rw [m2] at z
          have e0 : t.2.2.1 = 0 := (nI_eq (b := 0) (by omega) (by omega)).mp z
          unfold hdB
          rw [ht, if_pos rfl, if_pos e0, w2]
    have n1' : ¬ b2i true = 0 := by decide
    refine ⟨v256, fun z => ⟨fun _ => zero z, fun z2 => absurd z z2⟩, fun z => ⟨fun z2 => absurd z2 n1', fun _ => ?_⟩⟩
    refine c1_sweep (d := d) hS ta hX okr hL hsw u1 (fun h1 f1 vw1 s1 => ⟨rfl, f1.1.sk hS, by rw [f1.1.2.1]; exact tv, by rw [f1.1.2.1]; exact tl, by rw [f1.1.2.1]; exact ta, ?_⟩)
    exact lp h1 (f1.wk (fun x k z => by unfold aSweep at z; unfold aMid; omega)) vw1 s1 32 0 0 AS 0 (by omega) (by omega) start1 start2
  | false =>
    obtain ⟨u1, u2, u3⟩ := okt.2 ht
    have lp : ∀ (s p0 kk : Nat) (left found : Int32) (h1 : mH), mFr2 (aMid a) h h1 → cSw h1 a C → (∀ j x, j < 5 → mI h1 26 j = fcF U C t.2.1 x y (jH l) (jW l) j) → 32 - p0 ≤ s → kk ≤ p0 → (∀ x, x < 32 → bt left x = (bt AS x && decide (p0 ≤ x))) → (∀ x, x < 32 → bt found x = (bt AS x && (decide (x < p0) && hdB L U C l t x y))) → mW G kX2_holdsIn (d + 3) b 80 [some (.inr (some 11)), some (.inr (some v)), none, some (.inr (some a)), some (.inl (nI y)), none, some (.inl (nI (c * 32 + y))), some (.inl AS), some (.inl found), some (.inl left), some (.inl (nI kk)), none, none] [] h1 Q := by
      intro s
      induction s with
      | zero =>
        intro p0 kk left found h1 f1 s1 j1 hs hkk hl hf
        have hz : left = 0 := bt_ext (fun i hi => by rw [hl i hi, bt_0]; simp; omega)
        rw [hz]
        exact fin h1 found _ f1 s1 (key left found p0 hl hf hz)
      | succ s ih =>
        intro p0 kk left found h1 f1 s1 j1 hs hkk hl hf
        have hS1 := f1.1.sk hS
        have tv1 : mT h1 v = 8 := by rw [f1.1.2.1]; exact tv
        have ta1 : mT h1 a = 2 := by rw [f1.1.2.1]; exact ta
        have nv : ∀ k, ¬ aMid a v k := fun k z => by
          have := ap 0 3 (by omega) (by omega); have := ap 0 4 (by omega) (by omega)
          unfold aMid aEr aEar at z; omega
        have m0 : mI h1 v 0 = 0 := by rw [f1.2 _ _ (nv _), n0, ht]; rfl
        by_cases hz : left = 0
        · rw [hz]
          exact fin h1 found _ f1 s1 (key left found p0 hl hf hz)
        obtain ⟨p, g1, g2, g3, g4, g5⟩ := low_n left hz
        have hkp : p0 ≤ p := by have := hl p g1; rw [g3] at this; have := this.symm; simp at this; exact this.2
        refine qX2_holdsIn_80 v a _ _ _ _ _ _ tv1 ta1 hS1 ⟨fun z => absurd z hz, fun _ => ⟨fun z => absurd z (nI_ge (b := 32) (by omega) (by omega)), fun _ => ⟨fun _ => ?_, fun z => absurd m0 z⟩⟩⟩
        rw [nI_1, g2]
        have hL1 : cLa h1 a C := f1.cla (fun k z => by unfold aMid aEr aEar at z; omega) (fun k z => by unfold aMid aEr aEar at z; omega) hL
        have hU1 : soX h1 m U := soX.fr f1 (fun x k z1 z2 z => by unfold aMid aEr aEar at z; omega) (fun z => by unfold aMid aEr aEar at z; omega) hU
        have lw1 : lwX h1 L := lwX.fr f1 (fun x k z1 z => by unfold aMid aEr aEar at z; omega) lw
        refine c2_loudnessAt (d := d) hS1 ta1 ha93 hL1 hU1 u1 lw1 ok g1 hy (fun j hj => j1 j p hj) (fun h2 f2 => ?_)
        have f2' : mFr2 (aMid a) h1 h2 := f2.wk (fun x k z => Or.inl (Or.inr z))
        have f12 := f1.tr f2'
        have hS2 := f12.1.sk hS
        refine ⟨_, rfl, hS2, by rw [f12.1.2.1]; exact tv, by rw [f12.1.2.1]; exact ta, fun w10 e10 w11 e11 => ?_⟩
        obtain ⟨y1, y2⟩ := lvN_eq L U C t.2.1 p y (jH l) (jW l)
        have m2 : mI h2 v 2 = nI t.2.2.1 := by rw [f12.2 _ _ (nv _)]; exact n2
        have m3 : mI h2 v 3 = nI t.2.2.2 := by rw [f12.2 _ _ (nv _)]; exact n3
        rw [m2, m3, y2, (f_abs_n (by omega) (by omega)).1] at e10
        have hds : dst (lvN L U C t.2.1 p y (jH l) (jW l)) t.2.2.1 < 1000 := by unfold dst; omega
        have ew2 : w11 = (if hdB L U C l t p y = true then m_shl 1 (nI p) else 0) := by
          rw [e11, e10]
          unfold hdB
          rw [ht, if_neg (show ¬ (false = true) by decide)]
          by_cases hh : dst (lvN L U C t.2.1 p y (jH l) (jW l)) t.2.2.1 ≤ t.2.2.2
          · rw [if_neg (nI_nlt hh (by omega)), decide_eq_true hh]; rfl
          · rw [if_pos (nI_lt (by omega) (by omega)), decide_eq_false hh]; rfl
        obtain ⟨q1, q2, q3⟩ := nxt left found w11 p0 p g1 hl hf g3 g4 ew2
        have s2 : cSw h2 a C := by
          have g : ∀ j k, j = 3 ∨ j = 4 → mI h2 (a + j) k = mI h1 (a + j) k := fun j k hj => f2.2 _ _ (fun z => by unfold aEar at z; omega)
          intro q hq n0
          rw [g 4 q (Or.inr rfl)] at n0
          intro x y hx hy
          rw [g 3 _ (Or.inl rfl)]
          exact s1 q hq n0 x y hx hy
        exact ih (p + 1) (kk + 1) _ _ h2 f12 s2 (fun j x hj => by rw [f2.2 _ _ (fun z => by unfold aEar at z; omega)]; exact j1 j x hj) (by omega) (by omega) (fun x hx => by rw [g5 x hx]; exact q3 x hx) q2
    have go : ¬ AS = 0 → mC G kX2_listen (d + 2) (0, 0) [.inr (some 11), .inl (nI t.2.1), .inl (nI (jH l)), .inl (nI (jW l))] h (fun r h4 => r = none ∧ mSk h4 ∧ mT h4 v = 8 ∧ mT h4 lid = 6 ∧ mT h4 a = 2 ∧ mW G kX2_holdsIn (d + 3) b 80 [some (.inr (some 11)), some (.inr (some v)), none, some (.inr (some a)), some (.inl (nI y)), none, some (.inl (nI (c * 32 + y))), some (.inl AS), some (.inl 0), some (.inl AS), some (.inl 0), none, none] [] h4 Q) := by
      intro z
      refine c2_listen (d := d + 1) (x := 0) (y := y) (C := C) hS hU u1 (fun h1 f1 j1 => ⟨rfl, f1.1.sk hS, by rw [f1.1.2.1]; exact tv, by rw [f1.1.2.1]; exact tl, by rw [f1.1.2.1]; exact ta, ?_⟩)
      have f1' : mFr2 (aMid a) h h1 := f1.wk (fun x k z => Or.inl (Or.inl z.1))
      have s1 : cSw h1 a C := by
        have g : ∀ j k, j = 3 ∨ j = 4 → mI h1 (a + j) k = mI h (a + j) k := fun j k hj => f1.2 _ _ (fun z => by unfold aLis at z; omega)
        intro q hq n0
        rw [g 4 q (Or.inr rfl)] at n0
        intro x y hx hy
        rw [g 3 _ (Or.inl rfl)]
        exact hsw q hq n0 x y hx hy
      refine lp 32 0 0 AS 0 h1 f1' s1 (fun j x hj => ?_) (by omega) (by omega) start1 start2
      rw [j1 j hj]
      unfold fcF
      rcases (show j = 0 ∨ j = 1 ∨ j = 2 ∨ j = 3 ∨ j = 4 by omega) with rfl | rfl | rfl | rfl | rfl <;> rfl
    exact ⟨v256, fun z => ⟨fun _ => zero z, fun z2 => absurd z z2⟩, fun z => ⟨fun _ => ⟨fun z2 => absurd z2 z, fun _ => go z⟩, fun z2 => absurd rfl z2⟩⟩
end
