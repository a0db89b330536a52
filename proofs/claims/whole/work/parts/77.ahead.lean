/-! ahead (model) -/
noncomputable def prB (C : aCo) (D E : aDc) (k a e : Nat) : Bool := aaB C D k a && aaB C E (mvT D k) e
noncomputable def prN (W : aW) (D E : aDc) (a e : Nat) : Nat := smN (fun c => cnt (fun k => thB W c (wl W - 1) k && prB (wC W c) D E k a e) 1024) (wn W)
noncomputable def msN (W : aW) (D E : aDc) (a : Nat) : Nat := mxN (prN W D E a) 65
theorem prN_le {W : aW} (hn : wn W ≤ 8) (D E : aDc) (a e : Nat) : prN W D E a e ≤ 8192 := by
  have := smN_le (f := fun c => cnt (fun k => thB W c (wl W - 1) k && prB (wC W c) D E k a e) 1024) (M := 1024) (fun y => cnt_le _ 1024) (wn W)
  unfold prN
  have h2 : wn W * 1024 ≤ 8 * 1024 := Nat.mul_le_mul_right _ hn
  omega
/-- the fewest behind an answer, of the first j second choices -/
noncomputable def fwN (W : aW) (CH : aCc) (D : aDc) (a : Nat) : Nat → Nat
  | 0 => FARn
  | j + 1 => if bt CH.1 j = true then min (fwN W CH D a j) (msN W D (CH.2 j) a) else fwN W CH D a j
theorem fwN_s (W : aW) (CH : aCc) (D : aDc) (a j : Nat) : fwN W CH D a (j + 1) = if bt CH.1 j = true then min (fwN W CH D a j) (msN W D (CH.2 j) a) else fwN W CH D a j := rfl
noncomputable def syF (W : aW) (CH : aCc) (D : aDc) : Nat → Nat
  | 0 => 0
  | a + 1 => if anN W D a = 0 then syF W CH D a else max (syF W CH D a) (fwN W CH D a 6)
theorem syF_s (W : aW) (CH : aCc) (D : aDc) (a : Nat) : syF W CH D (a + 1) = if anN W D a = 0 then syF W CH D a else max (syF W CH D a) (fwN W CH D a 6) := rfl
noncomputable def syN (W : aW) (CH : aCc) (D : aDc) : Nat := syF W CH D 65
noncomputable def ahO (W : aW) (CH : aCc) (i : Nat) : Option Nat := bsF (fun j => syN W CH (CH.2 j)) (bt CH.1) i
noncomputable def ahA (W : aW) (CH : aCc) (w : Nat) : Int32 := if w = 0 then oI (ahO W CH 6) (-1) nI else oI (ahO W CH 6) 1000000000 (fun j => nI (syN W CH (CH.2 j)))
theorem fwN_le (W : aW) (CH : aCc) (D : aDc) (a : Nat) : ∀ j, fwN W CH D a j ≤ FARn
  | 0 => Nat.le_refl _
  | j + 1 => by
    rw [fwN_s]
    have := fwN_le W CH D a j
    split <;> omega
theorem msN_le {W : aW} (hn : wn W ≤ 8) (D E : aDc) (a : Nat) : msN W D E a ≤ 8192 := mxN_ub 65 (fun e _ => prN_le hn D E a e)
theorem fwN_t {W : aW} (hn : wn W ≤ 8) {CH : aCc} {D : aDc} {a j : Nat} (ht : bt CH.1 j = true) : ∀ n, j < n → fwN W CH D a n ≤ 8192
  | n + 1, h => by
    rw [fwN_s]
    have := msN_le hn D (CH.2 n) a
    by_cases e : j = n
    · subst e; rw [if_pos ht]; omega
    · have ih := fwN_t hn (CH := CH) (D := D) (a := a) ht n (by omega)
      split <;> omega
theorem syF_le {W : aW} (hn : wn W ≤ 8) {CH : aCc} {D : aDc} {j : Nat} (hj : j < 6) (ht : bt CH.1 j = true) : ∀ a, syF W CH D a ≤ 8192
  | 0 => by show 0 ≤ 8192; omega
  | a + 1 => by
    rw [syF_s]
    have := syF_le hn (CH := CH) (D := D) hj ht a
    have := fwN_t hn (D := D) (a := a) ht 6 hj
    split <;> omega
def ix3 (j a e : Nat) : Nat := (65 * j + a) * 65 + e
theorem ix3_b {j a e : Nat} (hj : j < 6) (ha : a < 65) (he : e < 65) : ix3 j a e < 25350 := by
  unfold ix3; omega
theorem ix3_i {j a e j' a' e' : Nat} (ha : a < 65) (he : e < 65) (ha' : a' < 65) (he' : e' < 65) (h : ix3 j a e = ix3 j' a' e') : j = j' ∧ a = a' ∧ e = e' := by
  unfold ix3 at h; omega
def a87 : Nat → Nat → Prop := fun a _ => a = 87
theorem aw_x {C : aCo} {E : aDc} {k : Nat} (hmv : mvB C E k = true) (e : Nat) : aaB C E k e = awB C E.2 (tX E k).toNat (tY E k).toNat e := by unfold aaB; rw [hmv, Bool.true_and]
theorem aw_no {C : aCo} {E : aDc} {k : Nat} (hmv : ¬ mvB C E k = true) (e : Nat) : aaB C E k e = false := by
  unfold aaB
  have : mvB C E k = false := by simpa using hmv
  rw [this, Bool.false_and]
section
variable {G : mG} {d : Nat} {b : Nat × Nat} {h : mH} {Q : Option mV → mH → Prop}
set_option maxHeartbeats 1000000 in
theorem m_addsSecond {W : aW} {CH : aCc} {c k a : Nat} (hS : mSk h) (hW : mWo h W) (hC : chM h CH) (hc : c < wn W) (hk : k < 1024) (ha : a < 65)
    (K : ∀ h', mFr2 a87 h h' → (∀ j a' e, j < 6 → a' < 65 → e < 65 → mI h' 87 (ix3 j a' e) = mI h 87 (ix3 j a' e) + (if a' = a ∧ bt CH.1 j = true then b2i (aaB (wC W c) (CH.2 j) k e) else 0)) → Q none h') : mC G kX12_addsSecond (d + 5) b [.inr (some 47), .inl (nI c), .inl (nI k), .inl (nI a)] h Q := by
  have hn8 := hW.1.2.1
  obtain ⟨C, hCe⟩ : ∃ C, C = wC W c := ⟨_, rfl⟩
  refine qX12_addsSecond _ _ _ hS ?_
  refine mloop (W := fun j h1 => mW G kX12_addsSecond (d + 5) b 3 [some (.inr (some 47)), some (.inl (nI c)), some (.inl (nI k)), some (.inl (nI a)), some (.inl (nI j)), none, none, none] [] h1 Q)
    (P := fun j h1 => mFr2 a87 h h1 ∧ ∀ j' a' e, j' < 6 → a' < 65 → e < 65 → mI h1 87 (ix3 j' a' e) = mI h 87 (ix3 j' a' e) + (if j' < j ∧ a' = a ∧ bt CH.1 j' = true then b2i (aaB C (CH.2 j') k e) else 0)) 6 ?_ ?_ 0 h (by omega) ⟨mFr2.rf, fun j' a' e _ _ _ => by rw [if_neg (by omega)]; simp⟩
  · rintro j h1 hj ⟨f1, c1⟩ ih
    have hS1 := f1.1.sk hS
    have hW1 : mWo h1 W := mWo.fr f1 (fun a k z q => by unfold dM at z; unfold a87 at q; omega) hW
    have hC1 : chM h1 CH := hC.fr f1 (fun z => by unfold a87 at z; omega) (fun a k q1 q2 z => by unfold a87 at z; omega)
    obtain ⟨hCo, okr, hL⟩ := hW1.1.2.2 c hc
    rw [← hCe] at hCo okr hL
    have skip : ∀ h2, mFr2 a87 h1 h2 → (∀ j' a' e, j' < 6 → a' < 65 → e < 65 → mI h2 87 (ix3 j' a' e) = mI h1 87 (ix3 j' a' e) + (if j' = j ∧ a' = a ∧ bt CH.1 j' = true then b2i (aaB C (CH.2 j') k e) else 0)) → mW G kX12_addsSecond (d + 5) b 3 [some (.inr (some 47)), some (.inl (nI c)), some (.inl (nI k)), some (.inl (nI a)), some (.inl (nI (j + 1))), none, none, none] [] h2 Q := by
      intro h2 f2 c2
      refine ih h2 ⟨f1.tr f2, fun j' a' e q1 q2 q3 => ?_⟩
      rw [c2 j' a' e q1 q2 q3, c1 j' a' e q1 q2 q3]
      by_cases t : a' = a ∧ bt CH.1 j' = true
      · by_cases e1 : j' = j
        · rw [if_neg (by omega), if_pos ⟨e1, t⟩, if_pos ⟨by omega, t⟩]; simp
        · rw [if_neg (show ¬ (j' = j ∧ a' = a ∧ bt CH.1 j' = true) from fun u => e1 u.1)]
          by_cases e2 : j' < j
          · rw [if_pos ⟨e2, t⟩, if_pos ⟨show j' < j + 1 by omega, t⟩]; simp
          · rw [if_neg (fun u => e2 u.1), if_neg (show ¬ (j' < j + 1 ∧ a' = a ∧ bt CH.1 j' = true) from fun u => by omega)]; simp
      · rw [if_neg (fun u => t u.2), if_neg (fun u => t u.2), if_neg (fun u => t u.2)]; simp
    refine qX12_addsSecond_3 _ _ _ _ hS1 ⟨fun z => absurd z (nI_ge (b := 6) hj (by omega)), fun _ => m_isChoice hS1 hC1 hj ⟨_, rfl, hS1, fun zc => ?_, fun zc => ?_⟩⟩
    · have ht : bt CH.1 j = true := by
        cases hb : bt CH.1 j with
        | true => rfl
        | false => exact absurd (b2i_0.mpr hb) zc
      rw [nI_1]
      refine m_movedBy (d := d + 3) hS1 (by omega) hk hj hL hC1 ht ⟨_, rfl, hS1, fun z => ?_, fun z => ?_⟩
      · have hmv : mvB C (CH.2 j) k = true := by
          apply Classical.byContradiction; intro t
          rw [if_neg t] at z; exact z rfl
        obtain ⟨t1, t2, t3⟩ := mvT_x hmv
        obtain ⟨tg, wat⟩ := mvB_t.mp hmv
        rw [if_pos hmv]
        obtain ⟨q, hq⟩ : ∃ q, q = (CH.2 j).2 := ⟨_, rfl⟩
        obtain ⟨X, hX⟩ : ∃ X, X = (tX (CH.2 j) k).toNat := ⟨_, rfl⟩
        obtain ⟨Y, hY⟩ : ∃ Y, Y = (tY (CH.2 j) k).toNat := ⟨_, rfl⟩
        have eb := ecC_b (C := C) (q := q) (x := X) (y := Y) (by have := tg.1; omega) (by have := tg.2; omega)
        have aw := aw_x hmv
        rw [← hq, ← hX, ← hY] at aw
        rw [← hX] at t2
        rw [← hY] at t3
        rw [← hX, ← hY] at wat
        obtain ⟨E, hE⟩ : ∃ E, E = ecC C q X Y := ⟨_, rfl⟩
        rw [← hE] at eb
        have ei : ((65 : Int32) * nI j + nI a) * 65 = nI (ix3 j a 0) := by
          rw [show (65 : Int32) = nI 65 from rfl, pk_mul, nI_add, pk_mul]; rfl
        have eiE : nI (ix3 j a 0) + nI E = nI (ix3 j a E) := by rw [nI_add]; rfl
        have v0 := vp_in_nI (ix3_b hj ha (show 0 < 65 by omega)) (N := 25350) (by omega)
        have vE := vp_in_nI (ix3_b hj ha (show E < 65 by omega)) (N := 25350) (by omega)
        have b0 := ix3_b hj ha (show 0 < 65 by omega)
        have bE := ix3_b hj ha (show E < 65 by omega)
        refine m_countAt (d := d) hS1 (by omega) t1 hj hCo okr hL hC1 ht (by rw [t2, t3]; exact wat) ⟨_, rfl, hS1, ?_⟩
        rw [t2, t3, ← hq, ← hE, ei, eiE, nI_clamp (show ix3 j a E < 2 ^ 31 by omega)]
        have i0 : nI E ≤ 0 ↔ E = 0 := by rw [show (0 : Int32) = nI 0 from rfl, nI_leI (by omega) (by omega)]; omega
        rw [i0]
        refine ⟨fun z0 => ?_, fun z0 => ⟨vE, vE, fun h15 e15 => ?_⟩⟩
        · refine m_mayBeSilent (d := d) hS1 (by omega) t1 hj hCo okr hL hC1 ht (by rw [t2, t3]; exact wat) ⟨_, rfl, hS1, ?_⟩
          rw [t2, t3, ← hq, nI_clamp (show ix3 j a 0 < 2 ^ 31 by omega)]
          refine ⟨fun zs => skip h1 mFr2.rf (fun j' a' e q1 q2 q3 => ?_), fun zs => ⟨v0, v0, fun h11 e11 => ?_⟩⟩
          · by_cases t : j' = j ∧ a' = a ∧ bt CH.1 j' = true
            · rw [if_pos t, t.1, aw]
              unfold awB
              by_cases e0 : e = 0
              · rw [if_pos e0, b2i_0.mp zs]; show _ = _ + (0 : Int32); simp
              · rw [if_neg e0, ← hE, decide_eq_false (by omega)]; show _ = _ + (0 : Int32); simp
            · rw [if_neg t]; simp
          · have hsi : siC C q X Y = true := by
              cases hb : siC C q X Y with
              | true => rfl
              | false => exact absurd (b2i_0.mpr hb) zs
            rw [e11]
            refine skip _ (mFr2.SI rfl) (fun j' a' e q1 q2 q3 => ?_)
            by_cases t : j' = j ∧ a' = a ∧ bt CH.1 j' = true
            · rw [if_pos t, t.1, t.2.1, aw]
              unfold awB
              by_cases e0 : e = 0
              · rw [if_pos e0, hsi, e0, mI_SI_s]; rfl
              · rw [if_neg e0, ← hE, decide_eq_false (by omega), mI_SI_k (fun u => e0 (ix3_i ha q3 ha (by omega) u).2.2)]; show _ = _ + (0 : Int32); simp
            · rw [if_neg t, mI_SI_k (fun u => t ⟨(ix3_i q2 q3 ha (by omega) u).1, (ix3_i q2 q3 ha (by omega) u).2.1, by rw [(ix3_i q2 q3 ha (by omega) u).1]; exact ht⟩)]; simp
        · have f15 : mFr2 a87 h1 h15 := by rw [e15]; exact mFr2.SI rfl
          have hS15 := f15.1.sk hS1
          have hW15 : mWo h15 W := mWo.fr f15 (fun a k z q => by unfold dM at z; unfold a87 at q; omega) hW1
          have hC15 : chM h15 CH := hC1.fr f15 (fun z => by unfold a87 at z; omega) (fun a k q1 q2 z => by unfold a87 at z; omega)
          obtain ⟨hCo', -, hL'⟩ := hW15.1.2.2 c hc
          rw [← hCe] at hCo' hL'
          refine m_mayBeSilent (d := d) hS15 (by omega) t1 hj hCo' okr hL' hC15 ht (by rw [t2, t3]; exact wat) ⟨_, rfl, hS15, ?_⟩
          rw [t2, t3, ← hq, nI_clamp (show ix3 j a 0 < 2 ^ 31 by omega)]
          refine ⟨fun zs => skip h15 f15 (fun j' a' e q1 q2 q3 => ?_), fun zs => ⟨v0, v0, fun h20 e20 => ?_⟩⟩
          · rw [e15]
            by_cases t : j' = j ∧ a' = a ∧ bt CH.1 j' = true
            · rw [if_pos t, t.1, t.2.1, aw]
              unfold awB
              by_cases e0 : e = 0
              · rw [if_pos e0, b2i_0.mp zs, mI_SI_k (fun u => by have := (ix3_i ha q3 ha (by omega) u).2.2; omega)]; show _ = _ + (0 : Int32); simp
              · rw [if_neg e0, ← hE]
                by_cases eE : e = E
                · rw [eE, mI_SI_s, decide_eq_true rfl]; rfl
                · rw [decide_eq_false (by omega), mI_SI_k (fun u => eE (ix3_i ha q3 ha (by omega) u).2.2)]; show _ = _ + (0 : Int32); simp
            · rw [if_neg t, mI_SI_k (fun u => t ⟨(ix3_i q2 q3 ha (by omega) u).1, (ix3_i q2 q3 ha (by omega) u).2.1, by rw [(ix3_i q2 q3 ha (by omega) u).1]; exact ht⟩)]; simp
          · have hsi : siC C q X Y = true := by
              cases hb : siC C q X Y with
              | true => rfl
              | false => exact absurd (b2i_0.mpr hb) zs
            refine skip h20 (f15.tr (by rw [e20]; exact mFr2.SI rfl)) (fun j' a' e q1 q2 q3 => ?_)
            rw [e20, e15]
            by_cases t : j' = j ∧ a' = a ∧ bt CH.1 j' = true
            · rw [if_pos t, t.1, t.2.1, aw]
              unfold awB
              by_cases e0 : e = 0
              · rw [if_pos e0, hsi, e0, mI_SI_s, mI_SI_k (fun u => by have := (ix3_i ha (show 0 < 65 by omega) ha (by omega) u).2.2; omega)]; rfl
              · rw [if_neg e0, ← hE, mI_SI_k (fun u => e0 (ix3_i ha q3 ha (by omega) u).2.2)]
                by_cases eE : e = E
                · rw [eE, mI_SI_s, decide_eq_true rfl]; rfl
                · rw [decide_eq_false (by omega), mI_SI_k (fun u => eE (ix3_i ha q3 ha (by omega) u).2.2)]; show _ = _ + (0 : Int32); simp
            · have no : ∀ e', e' < 65 → ix3 j' a' e ≠ ix3 j a e' := fun e' he' u => t ⟨(ix3_i q2 q3 ha he' u).1, (ix3_i q2 q3 ha he' u).2.1, by rw [(ix3_i q2 q3 ha he' u).1]; exact ht⟩
              rw [if_neg t, mI_SI_k (no 0 (by omega)), mI_SI_k (no E (by omega))]; simp
      · have hmv : ¬ mvB C (CH.2 j) k = true := fun t => by
          rw [if_pos t] at z
          exact absurd z (nI_nmb (by have := (mvT_x t).1; omega))
        refine skip h1 mFr2.rf (fun j' a' e q1 q2 q3 => ?_)
        by_cases t : j' = j ∧ a' = a ∧ bt CH.1 j' = true
        · rw [if_pos t, t.1, aw_no hmv]; show _ = _ + (0 : Int32); simp
        · rw [if_neg t]; simp
    · have hf := b2i_0.mp zc
      rw [nI_1]
      refine skip h1 mFr2.rf (fun j' a' e q1 q2 q3 => ?_)
      rw [if_neg (fun u => by rw [u.1, hf] at u; exact absurd u.2.2 (by decide))]; simp
  · rintro h1 ⟨f1, c1⟩
    refine qX12_addsSecond_3 _ _ _ _ (f1.1.sk hS) ⟨fun _ => K h1 f1 (fun j a' e q1 q2 q3 => ?_), fun z => absurd (by decide) z⟩
    rw [c1 j a' e q1 q2 q3, ← hCe]
    by_cases t : a' = a ∧ bt CH.1 j = true
    · rw [if_pos ⟨q1, t⟩, if_pos t]
    · rw [if_neg (fun u => t u.2), if_neg t]
theorem m_mostSecond {f : Nat → Nat} {j a : Nat} (hS : mSk h) (hj : j < 6) (ha : a < 65) (hf : ∀ e, e < 65 → mI h 87 (ix3 j a e) = nI (f e)) (hb : ∀ e, f e ≤ 8192) (K : Q (some (.inl (nI (mxN f 65)))) h) : mC G kX12_mostSecond d b [.inr (some 47), .inl (nI a), .inl (nI j)] h Q := by
  refine qX12_mostSecond _ _ hS ?_
  refine mloop (W := fun e h3 => mW G kX12_mostSecond d b 5 [some (.inr (some 47)), some (.inl (nI a)), some (.inl (nI j)), some (.inl (nI (mxN f e))), some (.inl (nI e))] [] h3 Q) (P := fun e h3 => h3 = h) 65 ?_ ?_ 0 h (by omega) rfl
  · rintro e h3 he rfl ih
    have hm := mxN_ub (f := f) (M := 8192) e (fun i _ => hb i)
    have h1 := hb e
    have b0 := ix3_b hj ha he
    have ve := vp_in_nI b0 (N := 25350) (by omega)
    have ih2 := ih h3 rfl
    rw [mxN_s] at ih2
    have ei : ((65 : Int32) * nI j + nI a) * 65 + nI e = nI (ix3 j a e) := by
      rw [show (65 : Int32) = nI 65 from rfl, pk_mul, nI_add, pk_mul, nI_add]; rfl
    refine qX12_mostSecond_5 _ _ _ _ hS ⟨fun z => absurd z (nI_ge (b := 65) he (by omega)), fun _ => ?_⟩
    rw [ei, nI_clamp (show ix3 j a e < 2 ^ 31 by omega), hf e he, nI_leI (by omega) (by omega), nI_1]
    refine ⟨ve, fun z => ?_, fun z => ⟨ve, ?_⟩⟩
    · rw [Nat.max_eq_left z] at ih2; exact ih2
    · rw [Nat.max_eq_right (by omega)] at ih2; exact ih2
  · rintro h3 rfl
    exact qX12_mostSecond_5 _ _ _ _ hS ⟨fun _ => K, fun z => absurd (by decide) z⟩
set_option maxHeartbeats 2000000 in
theorem m_staysBy {W : aW} {CH : aCc} {i : Nat} (hS : mSk h) (hW : mWo h W) (hC : chM h CH) (hst : stM h W) (hi : i < 6) (ht : bt CH.1 i = true) (K : ∀ h', mFr2 (fun a k => a86 a k ∨ a87 a k) h h' → Q (some (.inl (nI (syN W CH (CH.2 i))))) h') : mC G kX12_staysBy (d + 6) b [.inr (some 47), .inl (nI i)] h Q := by
  have hn8 := hW.1.2.1
  have hs8 := stN_le hn8
  refine qX12_staysBy _ hS (m_mostBy (d := d) hS hW hC hst hi ht (fun h0 f0 e0 => ⟨_, rfl, f0.1.sk hS, ?_⟩))
  have hS0 := f0.1.sk hS
  obtain ⟨e53, SC, SK, c1, c2⟩ := hst
  have f0' : mFr2 (fun a k => a86 a k ∨ a87 a k) h h0 := f0.wk (fun a k z => Or.inl z)
  obtain ⟨D, hD⟩ : ∃ D, D = CH.2 i := ⟨_, rfl⟩
  rw [← hD] at e0 K
  refine mloop (W := fun k h1 => mW G kX12_staysBy (d + 6) b 8 [some (.inr (some 47)), some (.inl (nI i)), some (.inl (nI k)), none, none, none] [] h1 Q)
    (P := fun k h1 => mFr2 a87 h0 h1 ∧ ∀ k', k' < k → mI h1 87 k' = nI 0) 25350 ?_ ?_ 0 h0 (by omega) ⟨mFr2.rf, fun k' z => by omega⟩
  · rintro k h1 hk ⟨f1, z1⟩ ih
    refine qX12_staysBy_8 _ _ (f1.1.sk hS0) ⟨fun z => absurd z (nI_ge (b := 25350) hk (by omega)), fun _ => ⟨vp_in_nI hk (by omega), fun h2 e2 => ?_⟩⟩
    rw [nI_clamp (by omega)] at e2
    rw [nI_1, e2]
    refine ih _ ⟨f1.tr (mFr2.SI rfl), fun a' ha' => ?_⟩
    by_cases e : a' = k
    · rw [e, mI_SI_s]; rfl
    · rw [mI_SI_k e]; exact z1 a' (by omega)
  · rintro h1 ⟨f1, z1⟩
    refine qX12_staysBy_8 _ _ (f1.1.sk hS0) ⟨fun _ => ?_, fun z => absurd (by decide) z⟩
    refine mloop (W := fun s h2 => mW G kX12_staysBy (d + 6) b 30 [some (.inr (some 47)), some (.inl (nI i)), some (.inl (nI s)), none, none, none] [] h2 Q)
      (P := fun s h2 => mFr2 a87 h0 h2 ∧ ∀ j a e, j < 6 → a < 65 → e < 65 → bt CH.1 j = true → mI h2 87 (ix3 j a e) = nI (cnt (fun s => prB (wC W (SC s)) D (CH.2 j) (SK s) a e) s)) (stN W) ?_ ?_ 0 h1 (by omega) ⟨f1, fun j a e q1 q2 q3 _ => z1 _ (ix3_b q1 q2 q3)⟩
    · rintro s h2 hs ⟨f2, z2⟩ ih
      have hS2 := f2.1.sk hS0
      have f02 : mFr2 (fun a k => a86 a k ∨ a87 a k) h h2 := f0'.tr (f2.wk (fun a k z => Or.inr z))
      have lo : ∀ a k, a ≠ 86 → a ≠ 87 → mI h2 a k = mI h a k := fun a k q1 q2 => f02.2 _ _ (fun z => z.elim q1 q2)
      have keepW : ∀ h3, mFr2 a87 h2 h3 → mWo h3 W ∧ chM h3 CH := fun h3 f3 => by
        have f03 := f02.tr (f3.wk (fun a k z => Or.inr (a := a86 a k) z))
        exact ⟨mWo.fr f03 (fun a k z q => by unfold dM at z; unfold a86 a87 at q; omega) hW, hC.fr f03 (fun z => by unfold a86 a87 at z; omega) (fun a k q1 q2 z => by unfold a86 a87 at z; omega)⟩
      obtain ⟨hW2, hC2⟩ := keepW h2 mFr2.rf
      obtain ⟨p1, p2, p3, p4⟩ := c1 s hs
      obtain ⟨hCo, okr, hL⟩ := hW2.1.2.2 (SC s) p1
      have vs := vp_in_nI (n := s) (N := 8192) (by omega) (by omega)
      have go : ∀ h3, mFr2 a87 h2 h3 → (∀ j a e, j < 6 → a < 65 → e < 65 → bt CH.1 j = true → mI h3 87 (ix3 j a e) = mI h2 87 (ix3 j a e) + b2i (prB (wC W (SC s)) D (CH.2 j) (SK s) a e)) → mW G kX12_staysBy (d + 6) b 30 [some (.inr (some 47)), some (.inl (nI i)), some (.inl (nI (s + 1))), none, none, none] [] h3 Q := by
        intro h3 f3 c3
        refine ih h3 ⟨f2.tr f3, fun j a e q1 q2 q3 q4 => ?_⟩
        rw [c3 j a e q1 q2 q3 q4, z2 j a e q1 q2 q3 q4, cnt_s]
        cases hb : prB (wC W (SC s)) D (CH.2 j) (SK s) a e with
        | true => rw [show b2i true = nI 1 from rfl, nI_add]; rfl
        | false => rw [show b2i false = nI 0 from rfl, nI_add]; rfl
      refine qX12_staysBy_30 _ _ hS2 ⟨fun z => absurd z (by rw [lo _ _ (by omega) (by omega), e53]; exact nI_ge hs (by omega)), fun _ => ⟨vs, vs, ?_⟩⟩
      rw [nI_clamp (show s < 2 ^ 31 by omega), lo 84 _ (by omega) (by omega), lo 85 _ (by omega) (by omega), p3, p4, nI_1]
      refine m_movedBy (d := d + 4) (C := wC W (SC s)) (CH := CH) hS2 (by omega) p2 hi hL hC2 ht ?_
      rw [← hD]
      refine ⟨_, rfl, hS2, fun z => ?_, fun z => ?_⟩
      · have hmv : mvB (wC W (SC s)) D (SK s) = true := by
          apply Classical.byContradiction; intro t
          rw [if_neg t] at z; exact z rfl
        obtain ⟨t1, t2, t3⟩ := mvT_x hmv
        obtain ⟨tg, wat⟩ := mvB_t.mp hmv
        rw [if_pos hmv]
        have eb := ecC_b (C := wC W (SC s)) (q := D.2) (x := (tX D (SK s)).toNat) (y := (tY D (SK s)).toNat) (by have := tg.1; omega) (by have := tg.2; omega)
        obtain ⟨E, hE⟩ : ∃ E, E = ecC (wC W (SC s)) D.2 (tX D (SK s)).toNat (tY D (SK s)).toNat := ⟨_, rfl⟩
        obtain ⟨si, hsi⟩ : ∃ si, si = siC (wC W (SC s)) D.2 (tX D (SK s)).toNat (tY D (SK s)).toNat := ⟨_, rfl⟩
        rw [← hE] at eb
        have aw : ∀ a, aaB (wC W (SC s)) D (SK s) a = if a = 0 then si else decide (E = a) := fun a => by rw [aw_x hmv, hE, hsi]; rfl
        refine m_countAt (d := d + 1) (C := wC W (SC s)) (CH := CH) hS2 (by omega) t1 hi hCo okr hL hC2 ht (by rw [t2, t3]; exact wat) ?_
        rw [t2, t3, ← hD, ← hE]
        refine ⟨_, rfl, hS2, ?_⟩
        have i0 : nI E ≤ 0 ↔ E = 0 := by rw [show (0 : Int32) = nI 0 from rfl, nI_leI (by omega) (by omega)]; omega
        rw [i0]
        refine ⟨fun z0 => ?_, fun z0 => ?_⟩
        · refine m_mayBeSilent (d := d + 1) (C := wC W (SC s)) (CH := CH) hS2 (by omega) t1 hi hCo okr hL hC2 ht (by rw [t2, t3]; exact wat) ?_
          rw [t2, t3, ← hD, ← hsi]
          refine ⟨_, rfl, hS2, fun zs => go h2 mFr2.rf (fun j a e q1 q2 q3 q4 => ?_), fun zs => ?_⟩
          · have : prB (wC W (SC s)) D (CH.2 j) (SK s) a e = false := by
              unfold prB
              rw [aw a]
              by_cases a0 : a = 0
              · rw [if_pos a0, b2i_0.mp zs, Bool.false_and]
              · rw [if_neg a0, decide_eq_false (by omega), Bool.false_and]
            rw [this, show b2i false = 0 from rfl]; simp
          · have hst : si = true := by
              cases hb : si with
              | true => rfl
              | false => exact absurd (b2i_0.mpr hb) zs
            rw [show (0 : Int32) = nI 0 from rfl]
            refine m_addsSecond (d := d) (a := 0) hS2 hW2 hC2 p1 t1 (by omega) (fun h3 f3 c3 => ⟨rfl, f3.1.sk hS2, go h3 f3 (fun j a e q1 q2 q3 q4 => ?_)⟩)
            rw [c3 j a e q1 q2 q3]
            unfold prB
            rw [aw a]
            by_cases a0 : a = 0
            · rw [if_pos ⟨a0, q4⟩, if_pos a0, hst, Bool.true_and]
            · rw [if_neg (fun u => a0 u.1), if_neg a0, decide_eq_false (by omega), Bool.false_and]; rfl
        · refine m_addsSecond (d := d) (a := E) hS2 hW2 hC2 p1 t1 (by omega) (fun h3 f3 c3 => ⟨rfl, f3.1.sk hS2, ?_⟩)
          have hS3 := f3.1.sk hS2
          obtain ⟨hW3, hC3⟩ := keepW h3 f3
          obtain ⟨hCo3, -, hL3⟩ := hW3.1.2.2 (SC s) p1
          refine m_mayBeSilent (d := d + 1) (C := wC W (SC s)) (CH := CH) hS3 (by omega) t1 hi hCo3 okr hL3 hC3 ht (by rw [t2, t3]; exact wat) ?_
          rw [t2, t3, ← hD, ← hsi]
          refine ⟨_, rfl, hS3, fun zs => go h3 f3 (fun j a e q1 q2 q3 q4 => ?_), fun zs => ?_⟩
          · rw [c3 j a e q1 q2 q3]
            unfold prB
            rw [aw a]
            by_cases a0 : a = 0
            · rw [if_neg (by omega), if_pos a0, b2i_0.mp zs, Bool.false_and]; rfl
            · rw [if_neg a0]
              by_cases aE : a = E
              · rw [if_pos ⟨aE, q4⟩, decide_eq_true aE.symm, Bool.true_and]
              · rw [if_neg (fun u => aE u.1), decide_eq_false (fun u => aE u.symm), Bool.false_and]; rfl
          · have hst : si = true := by
              cases hb : si with
              | true => rfl
              | false => exact absurd (b2i_0.mpr hb) zs
            rw [show (0 : Int32) = nI 0 from rfl]
            refine m_addsSecond (d := d) (a := 0) hS3 hW3 hC3 p1 t1 (by omega) (fun h4 f4 c4 => ⟨rfl, f4.1.sk hS3, go h4 (f3.tr f4) (fun j a e q1 q2 q3 q4 => ?_)⟩)
            rw [c4 j a e q1 q2 q3, c3 j a e q1 q2 q3]
            unfold prB
            rw [aw a]
            by_cases a0 : a = 0
            · rw [if_neg (by omega), if_pos ⟨a0, q4⟩, if_pos a0, hst, Bool.true_and]; simp
            · rw [if_neg (show ¬ (a = 0 ∧ bt CH.1 j = true) from fun u => a0 u.1), if_neg a0]
              by_cases aE : a = E
              · rw [if_pos ⟨aE, q4⟩, decide_eq_true aE.symm, Bool.true_and]; simp
              · rw [if_neg (show ¬ (a = E ∧ bt CH.1 j = true) from fun u => aE u.1), decide_eq_false (fun u => aE u.symm), Bool.false_and]
                show _ + (0 : Int32) + 0 = _ + (0 : Int32); simp
      · have hmv : ¬ mvB (wC W (SC s)) D (SK s) = true := fun t => by
          rw [if_pos t] at z
          exact absurd z (nI_nmb (by have := (mvT_x t).1; omega))
        refine go h2 mFr2.rf (fun j a e q1 q2 q3 q4 => ?_)
        unfold prB
        rw [aw_no hmv, Bool.false_and, show b2i false = 0 from rfl]; simp
    · rintro h2 ⟨f2, z2⟩
      have hS2 := f2.1.sk hS0
      have f02 : mFr2 (fun a k => a86 a k ∨ a87 a k) h h2 := f0'.tr (f2.wk (fun a k z => Or.inr z))
      have hC2 : chM h2 CH := hC.fr f02 (fun z => by unfold a86 a87 at z; omega) (fun a k q1 q2 z => by unfold a86 a87 at z; omega)
      have e86 : ∀ a, a < 65 → mI h2 86 a = nI (anN W D a) := fun a ha => by rw [f2.2 _ _ (fun z => by unfold a87 at z; omega)]; exact e0 a ha
      have e87 : ∀ j a e, j < 6 → a < 65 → e < 65 → bt CH.1 j = true → mI h2 87 (ix3 j a e) = nI (prN W D (CH.2 j) a e) := fun j a e q1 q2 q3 q4 => by
        rw [z2 j a e q1 q2 q3 q4, c2 (fun c k => prB (wC W c) D (CH.2 j) k a e)]; rfl
      refine qX12_staysBy_30 _ _ hS2 ⟨fun _ => ?_, fun z => absurd (by rw [f02.2 _ _ (fun z => by unfold a86 a87 at z; omega), e53]; exact nI_le (by omega) (by omega)) z⟩
      refine mloop (W := fun a h3 => mW G kX12_staysBy (d + 6) b 121 [some (.inr (some 47)), none, some (.inl (nI (syF W CH D a))), some (.inl (nI a)), none, none] [] h3 Q) (P := fun a h3 => h3 = h2) 65 ?_ ?_ 0 h2 (by omega) rfl
      · rintro a h3 ha rfl ih
        have ih2 := ih h3 rfl
        rw [syF_s] at ih2
        have hal := anN_le hn8 D a
        have hsl := syF_le hn8 (D := D) hi ht a
        have az : nI (anN W D a) = 0 ↔ anN W D a = 0 := nI_eq (b := 0) (by omega) (by omega)
        refine qX12_staysBy_121 _ _ hS2 ⟨fun z => absurd z (nI_ge (b := 65) ha (by omega)), fun _ => ⟨vp_in_nI ha (by omega), ?_⟩⟩
        rw [nI_clamp (show a < 2 ^ 31 by omega), e86 a ha, az]
        refine ⟨fun z => ?_, fun z => ?_⟩
        · rw [if_neg z] at ih2
          refine mloop (W := fun j h4 => mW G kX12_staysBy (d + 6) b 147 [some (.inr (some 47)), none, some (.inl (nI (syF W CH D a))), some (.inl (nI a)), some (.inl (nI (fwN W CH D a j))), some (.inl (nI j))] [] h4 Q) (P := fun j h4 => h4 = h3) 6 ?_ ?_ 0 h3 (by omega) rfl
          · rintro j h4 hj rfl ih4
            have ih5 := ih4 h4 rfl
            rw [fwN_s] at ih5
            have hfl := fwN_le W CH D a j
            refine qX12_staysBy_147 _ _ _ _ hS2 ⟨fun z => absurd z (nI_ge (b := 6) hj (by omega)), fun _ => m_isChoice hS2 hC2 hj ⟨_, rfl, hS2, fun zc => ?_, fun zc => ?_⟩⟩
            · have hf := b2i_0.mp zc
              rw [if_neg (by rw [hf]; decide)] at ih5
              rw [nI_1]; exact ih5
            · have htj : bt CH.1 j = true := by
                cases hb : bt CH.1 j with
                | true => rfl
                | false => exact absurd (b2i_0.mpr hb) zc
              rw [if_pos htj] at ih5
              have hml := msN_le hn8 D (CH.2 j) a
              refine m_mostSecond (f := prN W D (CH.2 j) a) hS2 hj ha (fun e he => e87 j a e hj ha he htj) (fun e => prN_le hn8 _ _ _ _) ⟨_, rfl, hS2, ?_⟩
              have e9 : f_X12_least (nI (fwN W CH D a j)) (nI (mxN (prN W D (CH.2 j) a) 65)) = nI (min (fwN W CH D a j) (msN W D (CH.2 j) a)) := least_n hfl (by unfold FARn; unfold msN at hml; omega)
              rw [nI_1, e9]; exact ih5
          · rintro h4 rfl
            have hft := fwN_t hn8 (D := D) (a := a) ht 6 hi
            refine qX12_staysBy_147 _ _ _ _ hS2 ⟨fun _ w1 e1 => ?_, fun z => absurd (by decide) z⟩
            rw [nI_1]
            have : w1 = nI (max (syF W CH D a) (fwN W CH D a 6)) := by
              rw [e1]
              by_cases q : fwN W CH D a 6 ≤ syF W CH D a
              · rw [if_pos (nI_le q (by omega)), Nat.max_eq_left q]
              · rw [if_neg (nI_ge (by omega) (by omega)), Nat.max_eq_right (by omega)]
            rw [this]; exact ih2
        · rw [if_pos z] at ih2
          rw [nI_1]; exact ih2
      · rintro h3 rfl
        exact qX12_staysBy_121 _ _ hS2 ⟨fun _ => K h3 f02, fun z => absurd (by decide) z⟩
theorem m_ahead (v1 : Int32) {W : aW} {CH : aCc} (hS : mSk h) (hW : mWo h W) (hC : chM h CH) (K1 : f_X11_within v1 0 1 = 0 → Q (some (.inl (-1))) h) (K2 : ¬ f_X11_within v1 0 1 = 0 → (CH.1 = 0 ∨ wl W = 0) → Q (some (.inl (-2))) h)
    (K3 : ∀ w, w ≤ 1 → v1 = nI w → CH.1 ≠ 0 → 0 < wl W → ∀ h', mFr2 (fun a k => aSt a k ∨ a86 a k ∨ a87 a k) h h' → (stN W = 0 → Q (some (.inl (-2))) h') ∧ (0 < stN W → Q (some (.inl (ahA W CH w))) h')) : mC G kX12_ahead (d + 9) b [.inr (some 47), .inl v1] h Q := by
  have hn8 := hW.1.2.1
  have hl12 := hW.2.2.2.2.1.2.1
  have hs8 := stN_le hn8
  refine qX12_ahead _ hS ?_
  rw [f_in_eq]
  refine ⟨fun z1 => qX12_canChoose hS ?_, K1⟩
  rw [hC.1, hW.2.2.2.2.1.1]
  refine ⟨fun z => ⟨_, rfl, hS, fun q => absurd rfl q, fun _ => K2 z1 (Or.inl z)⟩, fun z => ⟨fun z2 => ?_, fun z2 => ⟨_, rfl, hS, fun q => absurd rfl q, fun _ => K2 z1 (Or.inr ?_)⟩⟩⟩
  · have h0 : 0 < wl W := Nat.pos_of_ne_zero (fun e => z2 (by rw [e]; rfl))
    obtain ⟨w, hw, ew⟩ := wi_ex (m := 1) (by omega) z1
    have K := K3 w hw ew z h0
    rw [ew]
    refine m_laysStates hS hW h0 (fun h1 f1 s1 => ⟨rfl, f1.1.sk hS, fun w2 e2 => ⟨_, rfl, f1.1.sk hS, fun q => ?_, fun q => ?_⟩⟩)
    · have hS1 := f1.1.sk hS
      have hW1 := mWo.fr f1 aSt_d hW
      have hC1 : chM h1 CH := hC.fr f1 (fun z => by unfold aSt aFo at z; omega) (fun a k q1 q2 z => by unfold aSt aFo at z; omega)
      have hpos : 0 < stN W := by
        apply Classical.byContradiction; intro t
        have : stN W = 0 := by omega
        rw [s1.1, this, if_pos (by decide)] at e2
        exact q e2
      refine mloop (W := fun i h2 => mW G kX12_ahead (d + 9) b 30 [some (.inr (some 47)), some (.inl (nI w)), some (.inl (oI (ahO W CH i) (-1) nI)), some (.inl (oI (ahO W CH i) 1000000000 (fun j => nI (syN W CH (CH.2 j))))), some (.inl (nI i)), none] [] h2 Q)
        (P := fun i h2 => mFr2 (fun a k => a86 a k ∨ a87 a k) h1 h2) 6 ?_ ?_ 0 h1 (by omega) mFr2.rf
      · rintro i h2 hi f2 ih
        have hS2 := f2.1.sk hS1
        have hW2 : mWo h2 W := mWo.fr f2 (fun a k z q => by unfold dM at z; unfold a86 a87 at q; omega) hW1
        have hC2 : chM h2 CH := hC1.fr f2 (fun z => by unfold a86 a87 at z; omega) (fun a k q1 q2 z => by unfold a86 a87 at z; omega)
        have s2 : stM h2 W := s1.fr f2 (fun z => by unfold a86 a87 at z; omega) (fun k => ⟨fun z => by unfold a86 a87 at z; omega, fun z => by unfold a86 a87 at z; omega⟩)
        refine qX12_ahead_30 _ _ _ _ hS2 ⟨fun z => absurd z (nI_ge (b := 6) hi (by omega)), fun _ => m_isChoice hS2 hC2 hi ⟨_, rfl, hS2, fun zc => ?_, fun zc => ?_⟩⟩
        · have hct : bt CH.1 i = true := by
            cases hb : bt CH.1 i with
            | true => rfl
            | false => exact absurd (b2i_0.mpr hb) zc
          have hM : ∀ D, syN W CH D ≤ 8192 := fun D => syF_le hn8 hi hct 65
          refine m_staysBy (d := d + 2) hS2 hW2 hC2 s2 hi hct (fun h3 f3 => ⟨_, rfl, f3.1.sk hS2, fun zl => ?_, fun zl => ?_⟩)
          · rw [nI_1]
            have e : ahO W CH (i + 1) = some i := by
              cases ho : ahO W CH i with
              | none => exact bsF_0 hct ho
              | some j =>
                have : syN W CH (CH.2 i) < syN W CH (CH.2 j) := by
                  rw [ho, oI_s] at zl
                  rw [nI_ltI (by have := hM (CH.2 i); omega) (by have := hM (CH.2 j); omega)] at zl
                  exact zl
                exact (bsF_s hct ho).trans (if_pos this)
            have ih2 := ih h3 (f2.tr f3)
            simp only [e, oI_s] at ih2
            exact ih2
          · rw [nI_1]
            have e : ahO W CH (i + 1) = ahO W CH i := by
              cases ho : ahO W CH i with
              | none =>
                rw [ho, oI_n] at zl
                exact absurd (nI_lt (b := 1000000000) (by have := hM (CH.2 i); omega) (by omega)) zl
              | some j =>
                have : ¬ syN W CH (CH.2 i) < syN W CH (CH.2 j) := fun t => by
                  rw [ho, oI_s] at zl
                  exact zl (nI_lt t (by have := hM (CH.2 j); omega))
                exact (bsF_s hct ho).trans (if_neg this)
            have ih2 := ih h3 (f2.tr f3)
            rw [e] at ih2
            exact ih2
        · have hcf := b2i_0.mp zc
          rw [nI_1]
          have e : ahO W CH (i + 1) = ahO W CH i := bsF_n hcf
          have ih2 := ih h2 f2
          rw [e] at ih2
          exact ih2
      · rintro h2 f2
        have K4 := (K h2 ((f1.wk (fun a k z => Or.inl z)).tr (f2.wk (fun a k z => Or.inr z)))).2 hpos
        unfold ahA at K4
        have w0 : nI w = 0 ↔ w = 0 := nI_eq (b := 0) (by omega) (by omega)
        refine qX12_ahead_30 _ _ _ _ (f2.1.sk hS1) ⟨fun _ w1 e1 => ?_, fun z => absurd (by decide) z⟩
        by_cases q0 : w = 0
        · rw [if_pos q0] at K4
          rw [e1, if_neg (fun t => t (w0.mpr q0))]; exact K4
        · rw [if_neg q0] at K4
          rw [e1, if_pos (fun t => q0 (w0.mp t))]; exact K4
    · have hz : stN W = 0 := by
        apply Classical.byContradiction; intro t
        rw [s1.1, if_neg (nI_nle (by omega) (by omega))] at e2
        rw [q] at e2; exact absurd e2 (by decide)
      exact (K h1 (f1.wk (fun a k z => Or.inl z))).1 hz
  · exact (nI_eq (b := 0) (by omega) (by omega)).mp z2
end
