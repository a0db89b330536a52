/-! numbers, factors, sums (class) -/
def rdL (h : mH) (l : Nat) : Prop := ∃ L, L ≤ 160 ∧ mI h l 4 = nI L
def rdR (h h' : mH) (l : Nat) (t : Nat → Nat) (n : Nat) (r : aTr) : Prop := mFr2 (aRd l) h h' ∧ rdS h' l t n r.1 ∧ apC h h' l r.2
theorem apC.L {h h' : mH} {l : Nat} {c : List (Nat × Nat)} (a : apC h h' l c) (k : rdL h l) : rdL h' l := by
  obtain ⟨L, hL, e⟩ := k
  exact (a L hL e).1
theorem law_t {h : mH} {l : Nat} (hS : mSk h) (hl : l = 16 ∨ l = 21) : mT h l = 4 := by
  rcases hl with rfl | rfl
  · exact skT_16 hS
  · exact skT_21 hS
theorem rdL.fr {A : Nat → Nat → Prop} {h h' : mH} {l : Nat} (f : mFr2 A h h') (h1 : ¬ A l 4) (k : rdL h l) : rdL h' l := by
  obtain ⟨L, hL, e⟩ := k
  exact ⟨L, hL, by rw [f.2 _ _ h1]; exact e⟩
/-- reading signs only -/
theorem rdR.sg {A : Nat → Nat → Prop} {h h' : mH} {l n : Nat} {t : Nat → Nat} {s : aTs} (f : mFr2 A h h') (hA : ∀ a k, A a k → a = 27 ∧ (k = 3 ∨ k = 4)) (hl : l = 16 ∨ l = 21) (R : rdS h' l t n s) : rdR h h' l t n (s, []) :=
  ⟨f.wk (fun a k z => Or.inl (hA a k z)), R, apC.nil f (fun z => by have := hA _ _ z; omega) (fun k z => by have := hA _ _ z; omega)⟩
theorem rdR.tr {h h1 h2 : mH} {l n : Nat} {t : Nat → Nat} {r : aTr} {s : aTs} {c : List (Nat × Nat)} (a : rdR h h1 l t n r) (a2 : rdR h1 h2 l t n (s, c)) : rdR h h2 l t n (s, r.2 ++ c) := ⟨a.1.tr a2.1, a2.2.1, a.2.2.tr a2.2.2⟩
theorem rdR.trc {h h1 h2 : mH} {l n : Nat} {t : Nat → Nat} {r : aTr} {s : aTs} {c e : List (Nat × Nat)} (a : rdR h h1 l t n r) (a2 : rdR h1 h2 l t n (s, c)) (he : e = r.2 ++ c) : rdR h h2 l t n (s, e) := by
  rw [he]; exact a.tr a2
section
variable {G : mG} {d : Nat} {b : Nat × Nat} {h : mH} {Q : Option mV → mH → Prop}
theorem c4_add {l n o v : Nat} {t : Nat → Nat} {s : aTs} (R : rdS h l t n s) (k : rdL h l) (ho : cO o = o) (K : ∀ h' x, rdR h h' l t n (s, [(o, v)]) → Q (some (.inl x)) h') : mC G kX3_add d b [.inr (some l), .inl (nI o), .inl (nI v)] h Q := by
  obtain ⟨hS, B, e4, s4, e3, s3⟩ := R
  obtain ⟨L, hL, eL⟩ := k
  have hl := B.2.1
  refine c3_add hS hl (law_t hS hl) L hL eL (fun h' x f a _ => K h' x ⟨f.wk (fun a k z => Or.inr z), ⟨f.1.sk hS, B.fr f (by omega) (fun k => by omega), ?_, s4, ?_, s3⟩, a⟩) ho
  · rw [f.2 _ _ (by omega)]; exact e4
  · rw [f.2 _ _ (by omega)]; exact e3
theorem c4_readNumber {l n : Nat} {t : Nat → Nat} {s : aTs} (R : rdS h l t n s) (k : rdL h l) (K : ∀ h', rdR h h' l t n (nrS t n s) → Q none h') : mC G kX4_readNumber (d + 1) b [.inr (some 27)] h Q := by
  have hl := R.2.1.2.1
  have ht : ∀ j, j < n → t j < 256 := fun j hj => (R.2.1.2.2.2.2 j hj).1
  refine qX4_readNumber R.1 ?_
  have lp : ∀ (f i : Nat) (h1 : mH) (s1 : aTs) (v : Nat), i + f = 5 → rdR h h1 l t n (s1, []) → (nmS t n f s1 v) = nmS t n 5 s 0 →
      mW G kX4_readNumber (d + 1) b 4 [some (.inr (some 27)), some (.inl (nI v)), some (.inl (nI i))] [] h1 Q := by
    intro f
    -- the end
    have fin : ∀ (h1 : mH) (s1 : aTs) (v : Nat), rdR h h1 l t n (s1, []) → (s1, v) = nmS t n 5 s 0 → ∃ y1, mR h1 27 1 = some y1 ∧ mT h1 y1 = 4 ∧ mC G kX3_add d (0, 0) [.inr (some y1), .inl 0, .inl (nI v)] h1 (fun r h2 => ∃ x3, r = some (.inl x3) ∧ mSk h2 ∧ mT h2 y1 = 4 ∧ mC G kX4_sign d (0, 0) [.inr (some 27)] h2 (fun r h4 => ∃ x5, r = some (.inl x5) ∧ mSk h4 ∧ mT h4 y1 = 4 ∧ (((f_X11_within x5 48 57) = 0 → Q none h4) ∧ (¬ (f_X11_within x5 48 57) = 0 → mC G kX4_stop d (0, 0) [.inr (some 27), .inl 2] h4 (fun r h6 => r = none ∧ mSk h6 ∧ mT h6 y1 = 4 ∧ Q none h6))))) := by
      intro h1 s1 v a e
      refine ⟨l, a.2.1.2.1.1, law_t a.2.1.1 hl, c4_add (o := 0) (v := v) a.2.1 (a.2.2.L k) rfl (fun h2 x a2 => ⟨_, rfl, a2.2.1.1, law_t a2.2.1.1 hl, c4_sign a2.2.1 ⟨_, rfl, a2.2.1.1, law_t a2.2.1.1 hl, ?_, ?_⟩⟩)⟩
      · intro z
        rw [sgI_dg (sg_b ht)] at z
        refine K h2 ?_
        unfold nrS
        rw [← e]
        show rdR h h2 l t n (if isDg (sgS t n s1) then stS 2 s1 else s1, [(0, v)])
        rw [z, if_neg (by decide)]
        exact a.tr a2
      · intro z
        rw [sgI_dg (sg_b ht)] at z
        refine c4_stop (k := 2) a2.2.1 (by omega) (by omega) (fun h3 f3 R3 => ⟨rfl, R3.1, law_t R3.1 hl, K h3 ?_⟩)
        unfold nrS
        rw [← e]
        show rdR h h3 l t n (if isDg (sgS t n s1) then stS 2 s1 else s1, [(0, v)])
        rw [if_pos (by revert z; cases isDg (sgS t n s1) <;> simp)]
        exact (a.tr a2).trc (rdR.sg f3 (fun a k z => by omega) hl R3) (by simp)
    induction f with
    | zero =>
      intro i h1 s1 v hi a e
      refine qX4_readNumber_4 _ _ a.2.1.1 ⟨fun _ => fin h1 s1 v a e, fun z => absurd (nI_le (a := 5) (by omega) (by omega)) z⟩
    | succ f ih =>
      intro i h1 s1 v hi a e
      refine qX4_readNumber_4 _ _ a.2.1.1 ⟨fun z => absurd z (nI_ge (b := 5) (by omega) (by omega)), fun _ => c4_sign a.2.1 ⟨_, rfl, a.2.1.1, fun z => ?_, fun z => ?_⟩⟩
      · rw [sgI_dg (sg_b ht)] at z
        refine fin h1 s1 v a ?_
        rw [← e]
        unfold nmS
        rw [z, if_neg (by decide)]
      · rw [sgI_dg (sg_b ht)] at z
        have z1 : isDg (sgS t n s1) = true := by revert z; cases isDg (sgS t n s1) <;> simp
        have z2 : 48 ≤ sgS t n s1 ∧ sgS t n s1 ≤ 57 := of_decide_eq_true z1
        refine c4_sign a.2.1 ⟨_, rfl, a.2.1.1, fun h19 e19 => ?_⟩
        have Rs : rdS h1 l t n s1 := a.2.1
        obtain ⟨f3, R3⟩ := Rs.ad (by omega)
        have ev : 10 * nI v + sgI (sgS t n s1) - 48 = nI (10 * v + (sgS t n s1 - 48)) := by
          unfold sgI
          rw [if_neg (by omega), show (10 : Int32) = nI 10 from rfl, pk_mul, nI_add, show (48 : Int32) = nI 48 from rfl, pk_sub (by omega)]
          congr 1; omega
        rw [ev, nI_1, e19]
        refine ih (i + 1) _ (adS s1) _ (by omega) (a.tr (rdR.sg f3 (fun a k z => by omega) hl R3)) ?_
        rw [← e]
        conv => rhs; unfold nmS
        rw [if_pos z1]
  exact lp 5 0 h s 0 (by omega) ⟨mFr2.rf, R, apC.rf⟩ rfl
set_option maxHeartbeats 1000000 in
theorem c4_readFactor {l n o : Nat} {t : Nat → Nat} {s : aTs} {S0 : Option (aTs → aTr)} (ho : o ≤ 6) (hN : S0 = none → o = 6)
    (HS : ∀ S, S0 = some S → o < 6 ∧ ∀ (h : mH) (Q : Option mV → mH → Prop) (b : Nat × Nat) (s : aTs), rdS h l t n s → rdL h l → (∀ h', rdR h h' l t n (S s) → Q none h') → mC G kX4_readSum (d + 5) b [.inr (some 27), .inl (nI (o + 1))] h Q)
    (R : rdS h l t n s) (k : rdL h l) (K : ∀ h', rdR h h' l t n (fcS0 t n S0 s) → Q none h') : mC G kX4_readFactor (d + 6) b [.inr (some 27), .inl (nI o)] h Q := by
  have hl := R.2.1.2.1
  have ht : ∀ j, j < n → t j < 256 := fun j hj => (R.2.1.2.2.2.2 j hj).1
  have hb := sg_b (s := s) ht
  have R1 : rdR h h l t n (s, []) := ⟨mFr2.rf, R, apC.rf⟩
  have e91 := sgI_eq hb (show 91 < 256 by omega)
  have edg := sgI_dg hb
  unfold fcS0 at K
  -- nothing that fits
  have no : sgS t n s ≠ 91 → ¬ leT (sgS t n s) < 9 → (((f_X11_within (sgI (sgS t n s)) 48 57) = 0 → mC G kX4_stop (d + 5) (0, 0) [.inr (some 27), .inl 1] h (fun r h3 => r = none ∧ mSk h3 ∧ Q none h3)) ∧ (¬ (f_X11_within (sgI (sgS t n s)) 48 57) = 0 → mC G kX4_readNumber (d + 5) (0, 0) [.inr (some 27)] h (fun r h4 => r = none ∧ mSk h4 ∧ Q none h4))) := by
    intro z1 z2
    rw [if_neg z1, if_neg z2] at K
    refine ⟨fun z => ?_, fun z => ?_⟩
    · rw [edg] at z
      rw [if_neg (by rw [z]; decide)] at K
      exact c4_stop (k := 1) R (by omega) (by omega) (fun h3 f3 R3 => ⟨rfl, R3.1, K h3 (rdR.sg f3 (fun a k z => by omega) hl R3)⟩)
    · rw [edg] at z
      rw [if_pos (by revert z; cases isDg (sgS t n s) <;> simp)] at K
      exact c4_readNumber (d := d + 4) R k (fun h4 a4 => ⟨rfl, a4.2.1.1, K h4 a4⟩)
  refine qX4_readFactor _ R.1 (c4_sign R ⟨_, rfl, R.1, fun zm => ?_, fun zm => ?_⟩)
  · rw [sgI_m1 hb] at zm
    have hc : sgS t n s < 256 := by omega
    have esg : sgI (sgS t n s) = nI (sgS t n s) := if_neg zm
    refine ⟨fun z91 => ?_, fun z91 => ?_⟩
    · have n91 : sgS t n s ≠ 91 := fun u => z91 (e91.mpr u)
      have elet := let_f _ hc
      rw [esg, elet]
      by_cases zl : leT (sgS t n s) < 9
      · rw [if_pos zl]
        refine ⟨fun u => ?_, fun _ h6 e6 => ?_⟩
        · exfalso
          rw [Int32.lt_iff_toInt_lt, nI_toI (by omega)] at u
          have : (0 : Int32).toInt = 0 := rfl
          omega
        · rw [if_neg n91, if_pos zl] at K
          obtain ⟨f3, R3⟩ := R.ad zm
          rw [e6]
          have k3 : rdL (mSI h 27 3 (mI h 27 3 + 1)) l := k.fr f3 (by omega)
          refine ⟨l, R3.2.1.1, law_t R3.1 hl, c4_add (o := 1) (v := leT (sgS t n s)) R3 k3 rfl (fun h8 x a8 => ⟨_, rfl, a8.2.1.1, law_t a8.2.1.1 hl, K h8 ?_⟩)⟩
          exact (R1.tr (rdR.sg f3 (fun a k z => by omega) hl R3)).tr a8
      · rw [if_neg zl, ← esg]
        exact ⟨fun _ => no n91 zl, fun u => absurd (by decide) u⟩
    · have n91 : sgS t n s = 91 := e91.mp z91
      rw [if_pos n91] at K
      refine qX4_opens _ R.1 ⟨fun lt h1 e1 => ⟨_, rfl, ?_, fun u => absurd u (by decide), fun _ => ?_⟩, fun nl => ?_⟩
      · rw [e1]; exact (R.ad zm).2.1
      · rw [show (6 : Int32) = nI 6 from rfl, nI_ltI (by omega) (by omega)] at lt
        obtain ⟨f3, R3⟩ := R.ad zm
        rw [e1, nI_1]
        cases hs0 : S0 with
        | none => have := hN hs0; omega
        | some S =>
          rw [hs0] at K
          have k3 : rdL (mSI h 27 3 (mI h 27 3 + 1)) l := k.fr f3 (by omega)
          refine (HS S hs0).2 _ _ _ (adS s) R3 k3 (fun h4 a4 => ⟨rfl, a4.2.1.1, c4_expect (d := d + 4) (c := 93) a4.2.1 (by omega) (fun h5 f5 R5 => ⟨rfl, R5.1, K h5 ?_⟩)⟩)
          have a3 : rdR h (mSI h 27 3 (mI h 27 3 + 1)) l t n (adS s, []) := rdR.sg f3 (fun a k z => by omega) hl R3
          have a5 : rdR h h4 l t n ((S (adS s)).1, [] ++ (S (adS s)).2) := a3.tr (r := (adS s, [])) (s := (S (adS s)).1) (c := (S (adS s)).2) a4
          have := a5.trc (rdR.sg f5 (fun a k z => by omega) hl R5) (e := (S (adS s)).2) (by simp)
          exact this
      · rw [show (6 : Int32) = nI 6 from rfl, nI_ltI (by omega) (by omega)] at nl
        cases hs0 : S0 with
        | none =>
          rw [hs0] at K
          exact c4_stop (k := 5) R (by omega) (by omega) (fun h3 f3 R3 => ⟨rfl, R3.1, ⟨_, rfl, R3.1, fun _ => K h3 (rdR.sg f3 (fun a k z => by omega) hl R3), fun u => absurd rfl u⟩⟩)
        | some S => have := (HS S hs0).1; omega
  · rw [sgI_m1 hb] at zm
    have n91 : sgS t n s ≠ 91 := by omega
    have l9 : ¬ leT (sgS t n s) < 9 := by rw [zm]; decide
    exact ⟨fun _ => ⟨fun _ => no n91 l9, fun u => absurd (by decide) u⟩, fun u => (n91 (e91.mp u)).elim⟩
end
