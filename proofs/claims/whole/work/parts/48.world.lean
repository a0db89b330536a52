/-! THE CLASS'S WORLD -/
theorem ap22 {h : mH} (hS : mSk h) {v a : Nat} (tv : mT h v = 2) (ta : mT h a = 2) (hne : v ≠ a) : ∀ i j, i ≤ 8 → j ≤ 8 → v + i ≠ a + j := by
  intro i j hi hj e
  rcases (show i = j ∨ i < j ∨ j < i by omega) with q | q | q
  · omega
  · have : v = a + (j - i) := by omega
    rw [this] at tv
    rcases skB2 hS ta (j - i) (by omega) (by omega) with z | z <;> omega
  · have : a = v + (i - j) := by omega
    rw [this] at ta
    rcases skB2 hS tv (i - j) (by omega) (by omega) with z | z <;> omega
theorem ap88 {h : mH} (hS : mSk h) {v a : Nat} (tv : mT h v = 8) (ta : mT h a = 8) (hne : v ≠ a) : ∀ i j, i ≤ 2 → j ≤ 2 → v + i ≠ a + j := by
  intro i j hi hj e
  rcases (show i = j ∨ i < j ∨ j < i by omega) with q | q | q
  · omega
  · have : v = a + (j - i) := by omega
    rw [this, skB8 hS ta (j - i) (by omega) (by omega)] at tv; omega
  · have : a = v + (i - j) := by omega
    rw [this, skB8 hS tv (i - j) (by omega) (by omega)] at ta; omega
def liX (h : mH) (lid : Nat) (l : aLi) : Prop := mT h lid = 6 ∧ 93 ≤ lid ∧ mI h lid 0 = iI (jX l) ∧ mI h lid 1 = iI (jY l) ∧ mI h lid 2 = nI (jD l) ∧ mI h lid 3 = nI (jH l) ∧ mI h lid 4 = nI (jW l) ∧ mI h lid 5 = nI (jN l) ∧ ∀ k, k < jN l → ∃ v, mR h (lid + 1) k = some v ∧ 93 ≤ v ∧ ntX h v (jT l k)
def lgX (h : mH) (m n : Nat) (J : Nat → aLi) : Prop := mI h 28 1 = nI n ∧ n ≤ 12 ∧ ∀ i, i < n → (∃ lid, mR h 29 i = some lid ∧ liX h lid (J i)) ∧ okLi m (J i)
/-- no two references go to one line or note -/
def injX (h : mH) : Prop := (∀ i j a, mR h 29 i = some a → mR h 29 j = some a → i = j) ∧ ∀ a a' k k' v, mT h a = 6 → mT h a' = 6 → mR h (a + 1) k = some v → mR h (a' + 1) k' = some v → a = a' ∧ k = k'
def kcA (h : mH) (W : aW) : Prop := ∀ i lid k v, i < wl W → mR h 29 i = some lid → k < jN (wJ W i) → mR h (lid + 1) k = some v → ∀ c y, c < wn W → y < 32 → kcR h v (c * 32 + y) (fun x => hdB (wL W) (wU W) (wC W c) (wJ W i) (jT (wJ W i) k) x y)
def cWo (h : mH) (W : aW) (I : Nat → Nat) : Prop := cCh h (wn W) I (wC W) ∧ (∀ c, c < wn W → 93 ≤ I c ∧ mI h (I c) 0 = nI c) ∧ (∀ c c', c < wn W → c' < wn W → I c = I c' → c = c') ∧ soX h (wm W) (wU W) ∧ lwX h (wL W) ∧ okLw (wL W) ∧ lgX h (wm W) (wl W) (wJ W) ∧ (mI h 28 2 = nI (ws W) ∧ ws W ≤ 3) ∧ bxX h (wB W) ∧ injX h ∧ kcA h W
/-- what following a coast may change -/
def aFl (h : mH) (a c : Nat) : Nat → Nat → Prop := fun x k => (x = a ∧ (k = 10 ∨ k = 11)) ∨ x = a + 5 ∨ x = 30 ∨ aMid a x k ∨ (∃ v, mT h v = 8 ∧ 93 ≤ v ∧ (x = v + 1 ∨ x = v + 2) ∧ c * 32 ≤ k ∧ k < c * 32 + 32)
theorem injX.kp {h h' : mH} (k : mKp h h') (hi : injX h) : injX h' := by
  obtain ⟨-, k2, -, k4⟩ := k
  unfold injX at *
  rw [k2, k4]; exact hi
theorem aFl_lo {h : mH} {a c x k : Nat} (ha : 93 ≤ a) (hx : x < 93) (h1 : x ≠ 30) (h2 : ¬ aEr x k) : ¬ aFl h a c x k := by
  intro z
  rcases z with z | z | z | z | ⟨v, z1, z2, z3, z4⟩
  · omega
  · omega
  · omega
  · rcases z with z | z | z
    · exact h2 z
    · omega
    · omega
  · omega
/-- a line's and a note's own cells, another coast's cells, and this coast's own data stay -/
theorem aFl_l {h : mH} {a c x k : Nat} (hS : mSk h) (ta : mT h a = 2) (ha : 93 ≤ a) (tx : mT h x = 6) (hx : 93 ≤ x) : ¬ aFl h a c x k := by
  intro z
  have ap := ap62 hS tx ta
  rcases z with z | z | z | z | ⟨v, z1, z2, z3, z4⟩
  · exact ap 0 0 (by omega) (by omega) (by omega)
  · exact ap 0 5 (by omega) (by omega) (by omega)
  · omega
  · rcases z with z | z | z
    · unfold aEr aEar at z; omega
    · exact ap 0 3 (by omega) (by omega) (by omega)
    · exact ap 0 4 (by omega) (by omega) (by omega)
  · have ap2 := ap68 hS tx z1
    have := ap2 0 1 (by omega) (by omega)
    have := ap2 0 2 (by omega) (by omega)
    omega
theorem aFl_n {h : mH} {a c x k : Nat} (hS : mSk h) (ta : mT h a = 2) (ha : 93 ≤ a) (tx : mT h x = 8) (hx : 93 ≤ x) : ¬ aFl h a c x k := by
  intro z
  have ap := ap82 hS tx ta
  rcases z with z | z | z | z | ⟨v, z1, z2, z3, z4⟩
  · exact ap 0 0 (by omega) (by omega) (by omega)
  · exact ap 0 5 (by omega) (by omega) (by omega)
  · omega
  · rcases z with z | z | z
    · unfold aEr aEar at z; omega
    · exact ap 0 3 (by omega) (by omega) (by omega)
    · exact ap 0 4 (by omega) (by omega) (by omega)
  · by_cases e : x = v
    · omega
    · have ap2 := ap88 hS tx z1 e
      have := ap2 0 1 (by omega) (by omega)
      have := ap2 0 2 (by omega) (by omega)
      omega
theorem aFl_o {h : mH} {a c x j k : Nat} (hS : mSk h) (ta : mT h a = 2) (ha : 93 ≤ a) (tx : mT h x = 2) (hx : 93 ≤ x) (hne : x ≠ a) (hj : j ≤ 8) : ¬ aFl h a c (x + j) k := by
  intro z
  have ap := ap22 hS tx ta hne
  rcases z with z | z | z | z | ⟨v, z1, z2, z3, z4⟩
  · exact ap j 0 (by omega) (by omega) (by omega)
  · exact ap j 5 (by omega) (by omega) (by omega)
  · omega
  · rcases z with z | z | z
    · unfold aEr aEar at z; omega
    · exact ap j 3 (by omega) (by omega) (by omega)
    · exact ap j 4 (by omega) (by omega) (by omega)
  · have ap2 := ap82 hS z1 tx
    have := ap2 1 j (by omega) (by omega)
    have := ap2 2 j (by omega) (by omega)
    omega
theorem aFl_s {h : mH} {a c j k : Nat} (hS : mSk h) (ta : mT h a = 2) (ha : 93 ≤ a) (hj : j = 1 ∨ j = 2 ∨ j = 6 ∨ j = 7 ∨ j = 8 ∨ (j = 0 ∧ k ≤ 9)) : ¬ aFl h a c (a + j) k := by
  intro z
  rcases z with z | z | z | z | ⟨v, z1, z2, z3, z4⟩
  · omega
  · omega
  · omega
  · rcases z with z | z | z
    · unfold aEr aEar at z; omega
    · omega
    · omega
  · have ap2 := ap82 hS z1 ta
    have := ap2 1 j (by omega) (by omega)
    have := ap2 2 j (by omega) (by omega)
    omega
theorem cSw.fr {A : Nat → Nat → Prop} {h h' : mH} {a : Nat} {C : aCo} (f : mFr2 A h h') (h3 : ∀ k, ¬ A (a + 3) k) (h4 : ∀ k, ¬ A (a + 4) k) (s : cSw h a C) : cSw h' a C := by
  intro q hq n0
  rw [f.2 _ _ (h4 _)] at n0
  intro x y hx hy
  rw [f.2 _ _ (h3 _)]
  exact s q hq n0 x y hx hy
set_option maxHeartbeats 1000000 in
theorem cWo.fl {h h' : mH} {W : aW} {I : Nat → Nat} {c : Nat} (hS : mSk h) (hc : c < wn W) (f : mFr2 (aFl h (I c) c) h h') (s : cSw h' (I c) (wC W c)) (kc : kcA h' W) (hW : cWo h W I) : cWo h' W I := by
  obtain ⟨h1, h2, h3, h4, h5, h6, h7, h8, h9, h10, -⟩ := hW
  have ta := (h1.2.2 c hc).2.1
  have ha := (h2 c hc).1
  have lo : ∀ x k, x < 93 → x ≠ 30 → ¬ aEr x k → mI h' x k = mI h x k := fun x k q1 q2 q3 => f.2 _ _ (aFl_lo ha q1 q2 q3)
  refine ⟨⟨?_, h1.2.1, fun c' hc' => ⟨by rw [f.1.2.2.2]; exact (h1.2.2 c' hc').1, ?_⟩⟩, fun c' hc' => ⟨(h2 c' hc').1, ?_⟩, h3, ?_, ?_, h6, ⟨?_, h7.2.1, fun i hi => ⟨?_, (h7.2.2 i hi).2⟩⟩, ⟨?_, h8.2⟩, ?_, h10.kp f.1, kc⟩
  · rw [lo 33 1 (by omega) (by omega) (by unfold aEr aEar; omega)]; exact h1.1
  · by_cases e : c' = c
    · rw [e]
      exact cCo.fr f (aFl_s (j := 0) hS ta ha (by omega)) (fun j k hj => aFl_s hS ta ha (by omega)) (h1.2.2 c hc).2 s
    · have hne : I c' ≠ I c := fun q => e (h3 c' c hc' hc q)
      have tx := (h1.2.2 c' hc').2.1
      have hx := (h2 c' hc').1
      exact cCo.fr f (aFl_o (j := 0) hS ta ha tx hx hne (by omega)) (fun j k hj => aFl_o hS ta ha tx hx hne (by omega)) (h1.2.2 c' hc').2 (cSw.fr f (fun k => aFl_o hS ta ha tx hx hne (by omega)) (fun k => aFl_o hS ta ha tx hx hne (by omega)) (h1.2.2 c' hc').2.2.2.2.2)
  · by_cases e : c' = c
    · rw [e, show mI h' (I c) 0 = mI h (I c) 0 from f.2 _ _ (aFl_s (j := 0) hS ta ha (by omega))]; exact (h2 c hc).2
    · have hne : I c' ≠ I c := fun q => e (h3 c' c hc' hc q)
      rw [show mI h' (I c') 0 = mI h (I c') 0 from f.2 _ _ (aFl_o (j := 0) hS ta ha (h1.2.2 c' hc').2.1 (h2 c' hc').1 hne (by omega))]; exact (h2 c' hc').2
  · exact soX.fr f (fun a k q1 q2 => aFl_lo ha (by omega) (by omega) (by unfold aEr aEar; omega)) (aFl_lo ha (by omega) (by omega) (by unfold aEr aEar; omega)) h4
  · exact lwX.fr f (fun a k q => aFl_lo ha (by omega) (by omega) (by unfold aEr aEar; omega)) h5
  · rw [lo 28 1 (by omega) (by omega) (by unfold aEr aEar; omega)]; exact h7.1
  · obtain ⟨lid, r1, t6, g93, g0, g1, g2, g3, g4, g5, g6⟩ := (h7.2.2 i hi).1
    have nl : ∀ k, mI h' lid k = mI h lid k := fun k => f.2 _ _ (aFl_l hS ta ha t6 g93)
    refine ⟨lid, by rw [f.1.2.2.2]; exact r1, by rw [f.1.2.1]; exact t6, g93, by rw [nl]; exact g0, by rw [nl]; exact g1, by rw [nl]; exact g2, by rw [nl]; exact g3, by rw [nl]; exact g4, by rw [nl]; exact g5, fun k hk => ?_⟩
    obtain ⟨v, v1, v2, v3, v4, v5, v6, v7⟩ := g6 k hk
    have nv : ∀ k, mI h' v k = mI h v k := fun k => f.2 _ _ (aFl_n hS ta ha v3 v2)
    exact ⟨v, by rw [f.1.2.2.2]; exact v1, v2, by rw [f.1.2.1]; exact v3, by rw [nv]; exact v4, by rw [nv]; exact v5, by rw [nv]; exact v6, by rw [nv]; exact v7⟩
  · rw [lo 28 2 (by omega) (by omega) (by unfold aEr aEar; omega)]; exact h8.1
  · obtain ⟨⟨q1, q2, q3⟩, q4⟩ := h9
    refine ⟨⟨?_, ?_, fun x hx => ?_⟩, q4⟩
    · rw [lo 28 3 (by omega) (by omega) (by unfold aEr aEar; omega)]; exact q1
    · rw [lo 28 4 (by omega) (by omega) (by unfold aEr aEar; omega)]; exact q2
    · rw [lo 28 5 (by omega) (by omega) (by unfold aEr aEar; omega)]; exact q3 x hx
/-- the cost of a line's first j notes, behind what came before -/
noncomputable def pV (W : aW) (c i j x y : Nat) : Nat := sm (prV (wO W c) (wJ W) (wB W) i (32 * y + x)) (if coLand (wC W c) x y then FARn else wrC (wL W) (wU W) (wC W c) (wJ W i) x y j)
theorem pV_all (W : aW) (c i x y : Nat) (hx : x < 32) : pV W c i (jN (wJ W i)) x y = wF W c i (32 * y + x) := by
  unfold wF
  rw [foV_pr]
  unfold pV wO owK owC
  rw [show (32 * y + x) % 32 = x by omega, show (32 * y + x) / 32 = y by omega]
theorem sm_le {a c w : Nat} (hw : w < FARn) : sm a c ≤ w ↔ (a < FARn ∧ c < FARn ∧ a + c ≤ w) := by
  unfold sm
  by_cases h1 : FARn ≤ a
  · rw [if_pos h1]; omega
  · rw [if_neg h1]
    by_cases h2 : c < FARn
    · rw [if_pos h2]; omega
    · rw [if_neg h2]; omega
theorem pV_0 (W : aW) (c i x y w : Nat) (hw : w ≤ 3) : bgV (wC W c) (prV (wO W c) (wJ W) (wB W) i) x y ≤ w ↔ pV W c i 0 x y ≤ w := by
  unfold pV bgV
  rw [sm_le (by unfold FARn; omega)]
  cases coLand (wC W c) x y with
  | true => rw [if_pos rfl, if_pos rfl]; unfold FARn; omega
  | false =>
    rw [if_neg (by decide), if_neg (by decide)]
    have : wrC (wL W) (wU W) (wC W c) (wJ W i) x y 0 = 0 := rfl
    rw [this]; unfold FARn; omega
theorem pV_s (W : aW) (c i j x y w : Nat) (hw : w ≤ 3) (hj : j < 6) : (pV W c i j x y + (if hdB (wL W) (wU W) (wC W c) (wJ W i) (jT (wJ W i) j) x y then 0 else 1)) ≤ w ↔ pV W c i (j + 1) x y ≤ w := by
  have e : wrC (wL W) (wU W) (wC W c) (wJ W i) x y (j + 1) = wrC (wL W) (wU W) (wC W c) (wJ W i) x y j + (if !hdB (wL W) (wU W) (wC W c) (wJ W i) (jT (wJ W i) j) x y then 1 else 0) := rfl
  have hb := cnt_le (fun k => !hdB (wL W) (wU W) (wC W c) (wJ W i) (jT (wJ W i) k) x y) j
  have hb' : wrC (wL W) (wU W) (wC W c) (wJ W i) x y j ≤ j := hb
  unfold pV
  rw [e]
  cases coLand (wC W c) x y with
  | true =>
    rw [if_pos rfl, if_pos rfl]
    have h1 := sm_le (a := prV (wO W c) (wJ W) (wB W) i (32 * y + x)) (c := FARn) (w := w) (by unfold FARn; omega)
    constructor
    · intro z
      have := h1.mp (by split at z <;> omega)
      omega
    · intro z
      have := h1.mp z
      omega
  | false =>
    rw [if_neg (show ¬ (false = true) by decide), if_neg (show ¬ (false = true) by decide)]
    cases hdB (wL W) (wU W) (wC W c) (wJ W i) (jT (wJ W i) j) x y with
    | true => rw [if_pos rfl, if_neg (show ¬ ((!true) = true) by decide)]; exact Iff.rfl
    | false =>
      rw [if_neg (show ¬ (false = true) by decide), if_pos (show (!false) = true by decide), sm_le (by unfold FARn; omega)]
      cases w with
      | zero => constructor <;> intro z <;> omega
      | succ w =>
        have := sm_le (a := prV (wO W c) (wJ W) (wB W) i (32 * y + x)) (c := wrC (wL W) (wU W) (wC W c) (wJ W i) x y j) (w := w) (by unfold FARn; omega)
        unfold FARn at *
        constructor
        · intro z
          have := this.mp (by omega)
          omega
        · intro z
          have := this.mpr (by omega)
          omega
theorem pV_w (W : aW) (c i j x y w : Nat) (hw : w ≤ 3) (h : pV W c i j x y ≤ w) : coLand (wC W c) x y = false := by
  unfold pV at h
  rw [sm_le (by unfold FARn; omega)] at h
  cases hc : coLand (wC W c) x y with
  | false => rfl
  | true => rw [hc, if_pos rfl] at h; omega
theorem rwB.cg {h : mH} {A fr s : Nat} {V V' : Nat → Nat → Nat} (hr : rwB h A fr s V) (e : ∀ w x y, w ≤ s → x < 32 → y < 32 → (V x y ≤ w ↔ V' x y ≤ w)) : rwB h A fr s V' := by
  intro w x y h1 h2 h3
  rw [hr w x y h1 h2 h3]
  have := e w x y h1 h2 h3
  by_cases q : V x y ≤ w
  · rw [decide_eq_true q, decide_eq_true (this.mp q)]
  · rw [decide_eq_false q, decide_eq_false (fun z => q (this.mpr z))]
/-- how far a coast has been followed -/
def rch (h : mH) (a : Nat) (W : aW) (c ld nd : Nat) : Prop := mI h a 10 = nI ld ∧ mI h a 11 = nI nd ∧ ld ≤ wl W ∧ (∀ i, i + 1 = ld → nd ≤ jN (wJ W i)) ∧ (∀ i, i + 1 < ld → rwB h (a + 5) (i * 128) (ws W) (fun x y => wF W c i (32 * y + x))) ∧ ∀ i, i + 1 = ld → rwB h (a + 5) (i * 128) (ws W) (pV W c i nd)
