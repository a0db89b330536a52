/-! pairs of answers (class) -/
def apL (Q : Option mV → mH → Prop) (s1 s2 : Int32) (h : mH) : Prop := ((s1 = 0 → Q none h) ∧ (¬ s1 = 0 → ((s2 = 0 → Q none h) ∧ (¬ s2 = 0 → vp_in 0 1024 ∧ vp_in 0 1024 ∧ ∀ h3, h3 = mSI h 46 0 ((mI h 46 0) + 1) → Q none h3))))
def apR (Q : Option mV → mH → Prop) (s1 s2 x2 : Int32) (h : mH) : Prop := ((s1 = 0 → apL Q s1 s2 h) ∧ (¬ s1 = 0 → ((x2 ≤ 0 → apL Q s1 s2 h) ∧ (¬ (x2 ≤ 0) → vp_in x2 1024 ∧ vp_in x2 1024 ∧ ∀ h13, h13 = mSI h 46 x2.toNatClampNeg ((mI h 46 x2.toNatClampNeg) + 1) → apL Q s1 s2 h13))))
def apB (Q : Option mV → mH → Prop) (s1 s2 x1 x2 : Int32) (h : mH) : Prop := ((x1 * 32 ≤ 0 → apR Q s1 s2 x2 h) ∧ (¬ (x1 * 32 ≤ 0) → ((s2 = 0 → apR Q s1 s2 x2 h) ∧ (¬ s2 = 0 → vp_in (x1 * 32) 1024 ∧ vp_in (x1 * 32) 1024 ∧ ∀ h43, h43 = mSI h 46 (x1 * 32).toNatClampNeg ((mI h 46 (x1 * 32).toNatClampNeg) + 1) → apR Q s1 s2 x2 h43))))
def a46 : Nat → Nat → Prop := fun a _ => a = 46
theorem u46 {h : mH} {i n : Nat} : mI (mSI h 46 i (mI h 46 i + 1)) 46 n = mI h 46 n + b2i (decide (n = i)) := by
  by_cases e : n = i
  · rw [e, mI_SI_s, decide_eq_true rfl]; rfl
  · rw [mI_SI_k e, decide_eq_false e]; show _ = _ + (0 : Int32); simp
theorem b2i_f (x : Int32) : x + b2i false = x := by show x + (0 : Int32) = x; simp
theorem apL_i {Q : Option mV → mH → Prop} {h : mH} {s1 s2 : Bool} (K : ∀ h', mFr2 a46 h h' → (∀ n, mI h' 46 n = mI h 46 n + b2i ((s1 && s2) && decide (n = 0))) → Q none h') : apL Q (b2i s1) (b2i s2) h := by
  have v0 := vp_in_nI (n := 0) (N := 1024) (by omega) (by omega)
  refine ⟨fun z => K h mFr2.rf (fun n => ?_), fun z => ⟨fun z2 => K h mFr2.rf (fun n => ?_), fun z2 => ⟨v0, v0, fun h3 e3 => ?_⟩⟩⟩
  · rw [b2i_0.mp z, Bool.false_and, Bool.false_and, b2i_f]
  · rw [b2i_0.mp z2, Bool.and_false, Bool.false_and, b2i_f]
  · have t1 : s1 = true := by cases s1 with | true => rfl | false => exact absurd rfl z
    have t2 : s2 = true := by cases s2 with | true => rfl | false => exact absurd rfl z2
    refine K h3 (by rw [e3]; exact mFr2.SI rfl) (fun n => ?_)
    rw [e3, u46, t1, t2]; rfl
theorem apR_i {Q : Option mV → mH → Prop} {h : mH} {s1 s2 : Bool} {e2 : Nat} (h2 : e2 < 32) (K : ∀ h', mFr2 a46 h h' → (∀ n, mI h' 46 n = mI h 46 n + b2i ((s1 && decide (0 < e2)) && decide (n = e2)) + b2i ((s1 && s2) && decide (n = 0))) → Q none h') : apR Q (b2i s1) (b2i s2) (nI e2) h := by
  have i2 : nI e2 ≤ 0 ↔ e2 = 0 := by rw [show (0 : Int32) = nI 0 from rfl, nI_leI (by omega) (by omega)]; omega
  have v2 := vp_in_nI (n := e2) (N := 1024) (by omega) (by omega)
  unfold apR
  rw [i2, nI_clamp (show e2 < 2 ^ 31 by omega)]
  refine ⟨fun z => apL_i (fun h' f' c' => K h' f' (fun n => ?_)), fun z => ⟨fun z2 => apL_i (fun h' f' c' => K h' f' (fun n => ?_)), fun z2 => ⟨v2, v2, fun h13 e13 => apL_i (fun h' f' c' => K h' ?_ (fun n => ?_))⟩⟩⟩
  · rw [c' n, b2i_0.mp z]; simp only [Bool.false_and, b2i_f]
  · rw [c' n, decide_eq_false (show ¬ 0 < e2 by omega), Bool.and_false, Bool.false_and, b2i_f]
  · exact (by rw [e13]; exact mFr2.SI rfl : mFr2 a46 h h13).tr f'
  · have t1 : s1 = true := by cases s1 with | true => rfl | false => exact absurd rfl z
    rw [c' n, e13, u46, t1, decide_eq_true (show 0 < e2 by omega)]; rfl
theorem apB_i {Q : Option mV → mH → Prop} {h : mH} {s1 s2 : Bool} {e1 e2 : Nat} (h1 : e1 < 32) (h2 : e2 < 32) (K : ∀ h', mFr2 a46 h h' → (∀ n, mI h' 46 n = mI h 46 n + b2i ((decide (0 < e1) && s2) && decide (n = e1 * 32)) + b2i ((s1 && decide (0 < e2)) && decide (n = e2)) + b2i ((s1 && s2) && decide (n = 0))) → Q none h') : apB Q (b2i s1) (b2i s2) (nI e1) (nI e2) h := by
  have em : nI e1 * 32 = nI (e1 * 32) := by rw [L32, pk_mul]
  have i1 : nI (e1 * 32) ≤ 0 ↔ e1 = 0 := by rw [show (0 : Int32) = nI 0 from rfl, nI_leI (by omega) (by omega)]; omega
  have v1 := vp_in_nI (n := e1 * 32) (N := 1024) (by omega) (by omega)
  unfold apB
  rw [em, i1, nI_clamp (show e1 * 32 < 2 ^ 31 by omega)]
  refine ⟨fun z => apR_i h2 (fun h' f' c' => K h' f' (fun n => ?_)), fun z => ⟨fun z2 => apR_i h2 (fun h' f' c' => K h' f' (fun n => ?_)), fun z2 => ⟨v1, v1, fun h43 e43 => apR_i h2 (fun h' f' c' => K h' ?_ (fun n => ?_))⟩⟩⟩
  · rw [c' n, decide_eq_false (show ¬ 0 < e1 by omega), Bool.false_and, Bool.false_and, b2i_f]
  · rw [c' n, b2i_0.mp z2]; simp only [Bool.and_false, Bool.false_and, b2i_f]
  · exact (by rw [e43]; exact mFr2.SI rfl : mFr2 a46 h h43).tr f'
  · have t2 : s2 = true := by cases s2 with | true => rfl | false => exact absurd rfl z2
    rw [c' n, e43, u46, t2, decide_eq_true (show 0 < e1 by omega)]; rfl
def pw (e : Nat) (s : Bool) (a : Nat) : Bool := if a = 0 then s else decide (e = a)
theorem pw_0 (e : Nat) (s : Bool) : pw e s 0 = s := if_pos rfl
theorem pw_s (e : Nat) (s : Bool) {a : Nat} (h : a ≠ 0) : pw e s a = decide (e = a) := if_neg h
/-- the four places add up -/
theorem pw_tab (x : Int32) {e1 e2 a c : Nat} (s1 s2 : Bool) (ha : a < 32) (hc : c < 32) (h1 : e1 < 32) (h2 : e2 < 32) : x + b2i ((decide (0 < e1) && decide (0 < e2)) && decide (32 * a + c = e1 * 32 + e2)) + b2i ((decide (0 < e1) && s2) && decide (32 * a + c = e1 * 32)) + b2i ((s1 && decide (0 < e2)) && decide (32 * a + c = e2)) + b2i ((s1 && s2) && decide (32 * a + c = 0)) = x + b2i (pw e1 s1 a && pw e2 s2 c) := by
  by_cases a0 : a = 0
  · subst a0
    rw [pw_0]
    have n1 : decide (32 * 0 + c = e1 * 32 + e2) = (decide (e1 = 0) && decide (c = e2)) := by rw [← Bool.decide_and, decide_eq_decide]; omega
    have n2 : decide (32 * 0 + c = e1 * 32) = (decide (e1 = 0) && decide (c = 0)) := by rw [← Bool.decide_and, decide_eq_decide]; omega
    have q1 : ((decide (0 < e1) && decide (0 < e2)) && decide (32 * 0 + c = e1 * 32 + e2)) = false := by
      rw [n1]; by_cases z : e1 = 0
      · rw [decide_eq_false (show ¬ 0 < e1 by omega)]; rfl
      · rw [decide_eq_false z]; simp
    have q2 : ((decide (0 < e1) && s2) && decide (32 * 0 + c = e1 * 32)) = false := by
      rw [n2]; by_cases z : e1 = 0
      · rw [decide_eq_false (show ¬ 0 < e1 by omega)]; rfl
      · rw [decide_eq_false z]; simp
    rw [q1, q2, b2i_f, b2i_f]
    by_cases c0 : c = 0
    · subst c0
      rw [pw_0]
      have q3 : ((s1 && decide (0 < e2)) && decide (32 * 0 + 0 = e2)) = false := by
        by_cases z : e2 = 0
        · rw [decide_eq_false (show ¬ 0 < e2 by omega)]; simp
        · rw [decide_eq_false (show ¬ 32 * 0 + 0 = e2 by omega)]; simp
      rw [q3, b2i_f, decide_eq_true (show 32 * 0 + 0 = 0 from rfl), Bool.and_true]
    · rw [pw_s _ _ c0]
      have q4 : ((s1 && s2) && decide (32 * 0 + c = 0)) = false := by rw [decide_eq_false (by omega)]; simp
      rw [q4, b2i_f]
      by_cases z : e2 = c
      · rw [decide_eq_true (show 0 < e2 by omega), decide_eq_true (show 32 * 0 + c = e2 by omega), decide_eq_true z]; simp
      · rw [decide_eq_false (show ¬ 32 * 0 + c = e2 by omega), decide_eq_false z]; simp
  · rw [pw_s _ _ a0]
    have q3 : ((s1 && decide (0 < e2)) && decide (32 * a + c = e2)) = false := by rw [decide_eq_false (show ¬ 32 * a + c = e2 by omega)]; simp
    have q4 : ((s1 && s2) && decide (32 * a + c = 0)) = false := by rw [decide_eq_false (show ¬ 32 * a + c = 0 by omega)]; simp
    rw [q3, q4, b2i_f, b2i_f]
    by_cases z1 : e1 = a
    · rw [decide_eq_true z1, Bool.true_and, decide_eq_true (show 0 < e1 by omega), Bool.true_and, Bool.true_and]
      by_cases c0 : c = 0
      · subst c0
        rw [pw_0, decide_eq_true (show 32 * a + 0 = e1 * 32 by omega), Bool.and_true]
        have q1 : (decide (0 < e2) && decide (32 * a + 0 = e1 * 32 + e2)) = false := by
          by_cases z : e2 = 0
          · rw [decide_eq_false (show ¬ 0 < e2 by omega)]; rfl
          · rw [decide_eq_false (show ¬ 32 * a + 0 = e1 * 32 + e2 by omega)]; simp
        rw [q1, b2i_f]
      · rw [pw_s _ _ c0, decide_eq_false (show ¬ 32 * a + c = e1 * 32 by omega), Bool.and_false, b2i_f]
        by_cases z : e2 = c
        · rw [decide_eq_true (show 0 < e2 by omega), decide_eq_true (show 32 * a + c = e1 * 32 + e2 by omega), decide_eq_true z]; rfl
        · rw [decide_eq_false (show ¬ 32 * a + c = e1 * 32 + e2 by omega), decide_eq_false z, Bool.and_false]
    · rw [decide_eq_false z1, Bool.false_and, decide_eq_false (show ¬ 32 * a + c = e1 * 32 + e2 by omega), decide_eq_false (show ¬ 32 * a + c = e1 * 32 by omega), Bool.and_false, Bool.and_false, b2i_f]
section
variable {G : mG} {d : Nat} {b : Nat × Nat} {h : mH} {Q : Option mV → mH → Prop}
theorem c8_addPairs {v1 v2 : Int32} {e1 e2 : Nat} {s1 s2 : Bool} (hS : mSk h) (h1 : e1 < 32) (h2 : e2 < 32) (x1 : f_X11_echoSteps v1 = nI e1) (x2 : f_X11_echoSteps v2 = nI e2) (y1 : f_X11_maybeSilent v1 = b2i s1) (y2 : f_X11_maybeSilent v2 = b2i s2)
    (K : ∀ h', mFr2 a46 h h' → (∀ a c, a < 32 → c < 32 → mI h' 46 (32 * a + c) = mI h 46 (32 * a + c) + b2i (pw e1 s1 a && pw e2 s2 c)) → Q none h') : mC G kX8_addPairs (d + 1) b [.inr (some 41), .inl v1, .inl v2] h Q := by
  refine qX8_addPairs _ _ hS ?_
  rw [x1, x2, y1, y2]
  have em : nI e1 * 32 = nI (e1 * 32) := by rw [L32, pk_mul]
  have i1 : nI e1 * 32 ≤ 0 ↔ e1 = 0 := by rw [em, show (0 : Int32) = nI 0 from rfl, nI_leI (by omega) (by omega)]; omega
  have i2 : nI e2 ≤ 0 ↔ e2 = 0 := by rw [show (0 : Int32) = nI 0 from rfl, nI_leI (by omega) (by omega)]; omega
  have e12 : nI e1 * 32 + nI e2 = nI (e1 * 32 + e2) := by rw [em, nI_add]
  have v12 := vp_in_nI (n := e1 * 32 + e2) (N := 1024) (by omega) (by omega)
  have c12 := nI_clamp (n := e1 * 32 + e2) (by omega)
  have top : ((nI e1 * 32 ≤ 0 → apB Q (b2i s1) (b2i s2) (nI e1) (nI e2) h) ∧ (¬ (nI e1 * 32 ≤ 0) → ((nI e2 ≤ 0 → apB Q (b2i s1) (b2i s2) (nI e1) (nI e2) h) ∧ (¬ (nI e2 ≤ 0) → vp_in (nI e1 * 32 + nI e2) 1024 ∧ vp_in (nI e1 * 32 + nI e2) 1024 ∧ ∀ h133, h133 = mSI h 46 (nI e1 * 32 + nI e2).toNatClampNeg ((mI h 46 (nI e1 * 32 + nI e2).toNatClampNeg) + 1) → apB Q (b2i s1) (b2i s2) (nI e1) (nI e2) h133)))) := by
    rw [i1, i2, e12, c12]
    refine ⟨fun z => apB_i h1 h2 (fun h' f' c' => K h' f' (fun a c ha hc => ?_)), fun z => ⟨fun z2 => apB_i h1 h2 (fun h' f' c' => K h' f' (fun a c ha hc => ?_)), fun z2 => ⟨v12, v12, fun h13 e13 => apB_i h1 h2 (fun h' f' c' => K h' ?_ (fun a c ha hc => ?_))⟩⟩⟩
    · rw [c', ← pw_tab _ s1 s2 ha hc h1 h2, decide_eq_false (show ¬ 0 < e1 by omega)]; simp only [Bool.false_and, b2i_f]
    · rw [c', ← pw_tab _ s1 s2 ha hc h1 h2, decide_eq_false (show ¬ 0 < e2 by omega)]; simp only [Bool.and_false, Bool.false_and, b2i_f]
    · exact (by rw [e13]; exact mFr2.SI rfl : mFr2 a46 h h13).tr f'
    · rw [c', e13, u46, ← pw_tab _ s1 s2 ha hc h1 h2, decide_eq_true (show 0 < e1 by omega), decide_eq_true (show 0 < e2 by omega)]; rfl
  exact top
end
noncomputable def pcN (W : aW) (D E : aDc) (c a e : Nat) : Nat := cnt (fun k => thB W c (wl W - 1) k && prB (wC W c) D E k a e) 1024
noncomputable def pyN (W : aW) (D E : aDc) (c a e y : Nat) : Nat := cnt (fun x => thB W c (wl W - 1) (32 * y + x) && prB (wC W c) D E (32 * y + x) a e) 32
theorem pcN_r (W : aW) (D E : aDc) (c a e : Nat) : pcN W D E c a e = smN (pyN W D E c a e) 32 := by
  unfold pcN
  rw [show 1024 = 32 * 32 from rfl, cnt_rows]; rfl
theorem prB_t {C : aCo} {D E : aDc} {k a e : Nat} (h : prB C D E k a e = true) : mvB C D k = true ∧ mvB C E (mvT D k) = true := by
  unfold prB aaB at h
  rw [Bool.and_eq_true, Bool.and_eq_true, Bool.and_eq_true] at h
  exact ⟨h.1.1, h.2.1⟩
theorem pyN_0 {W : aW} {D E : aDc} {c a e y : Nat} (hy : y < 32) (h : ¬ ((0 ≤ (y : Int) + D.1.2 ∧ (y : Int) + D.1.2 < 32) ∧ (0 ≤ (y : Int) + D.1.2 + E.1.2 ∧ (y : Int) + D.1.2 + E.1.2 < 32))) : pyN W D E c a e y = 0 := by
  refine (cnt_z 32).mpr (fun x hx => ?_)
  cases hb : prB (wC W c) D E (32 * y + x) a e with
  | false => rw [Bool.and_false]
  | true =>
    obtain ⟨m1, m2⟩ := prB_t hb
    obtain ⟨t1, t2, t3⟩ := mvT_x m1
    have g1 := (mvB_t.mp m1).1.2
    have g2 := (mvB_t.mp m2).1.2
    unfold tY at g2
    rw [t3] at g2
    unfold tY at g1 g2
    rw [show (32 * y + x) / 32 = y by omega] at g1 g2
    exact absurd ⟨g1, by omega⟩ h
