/-! sums (class) -/
theorem toO_b {c a1 a2 a3 k m : Nat} (h : toO c a1 a2 a3 k = some m) : m ≤ k + 2 := by
  unfold toO at h
  by_cases h1 : c = a1
  · rw [if_pos h1] at h; cases h; omega
  · rw [if_neg h1] at h
    by_cases h2 : c = a2
    · rw [if_pos h2] at h; cases h; omega
    · rw [if_neg h2] at h
      by_cases h3 : c = a3
      · rw [if_pos h3] at h; cases h; omega
      · rw [if_neg h3] at h; cases h
theorem cO_s {m : Nat} (h : m ≤ 10) : cO m = m := by
  unfold cO; rw [if_neg (by omega), if_neg (by omega)]
theorem oI2_m {o : Option Nat} (h : ∀ m, o = some m → m ≤ 10) : (oI2 o = -1 ↔ o = none) ∧ (if oI2 o = -1 then (0 : Int32) else 1) = b2i o.isSome := by
  cases o with
  | none => exact ⟨⟨fun _ => rfl, fun _ => rfl⟩, rfl⟩
  | some m =>
    have hm := h m rfl
    have z : ¬ oI2 (some m) = -1 := nI_nmb (by omega)
    exact ⟨⟨fun u => (z u).elim, fun u => (by cases u)⟩, by rw [if_neg z]; rfl⟩
theorem tm_n {t : Nat → Nat} {n : Nat} {fc : aTs → aTr} {s : aTs} : ∀ f, tmS t n fc f s none = (s, [])
  | 0 => rfl
  | _ + 1 => rfl
theorem tm_s {t : Nat → Nat} {n m f : Nat} {fc : aTs → aTr} {s : aTs} : tmS t n fc (f + 1) s (some m) = ((tmS t n fc f (tkS t n 42 47 37 4 (fc s).1).2 (tkS t n 42 47 37 4 (fc s).1).1).1, (fc s).2 ++ ((m, 0) :: (tmS t n fc f (tkS t n 42 47 37 4 (fc s).1).2 (tkS t n 42 47 37 4 (fc s).1).1).2)) := rfl
def tmQ (t : Nat → Nat) (n : Nat) (fc : aTs → aTr) (s : aTs) : aTr := tmS t n fc 160 (tkS t n 42 47 37 4 (fc s).1).2 (tkS t n 42 47 37 4 (fc s).1).1
def smK (t : Nat → Nat) (n : Nat) (fc : aTs → aTr) (s : aTs) : Option Nat × aTs := tkS t n 43 45 45 2 (tmQ t n fc s).1
theorem sm_st {t : Nat → Nat} {n f : Nat} {w : Option Nat} {fc : aTs → aTr} {s : aTs} : smS t n fc (f + 1) s w true = ((smS t n fc f (smK t n fc s).2 (smK t n fc s).1 (smK t n fc s).1.isSome).1, (fc s).2 ++ (tmQ t n fc s).2 ++ wtL w ++ (smS t n fc f (smK t n fc s).2 (smK t n fc s).1 (smK t n fc s).1.isSome).2) := rfl
section
variable {G : mG} {d : Nat} {b : Nat × Nat} {h : mH} {Q : Option mV → mH → Prop}
set_option maxHeartbeats 1000000 in
theorem c4_sumL {l n o : Nat} {t : Nat → Nat} {s : aTs} {fc : aTs → aTr}
    (HF : ∀ (h : mH) (Q : Option mV → mH → Prop) (b : Nat × Nat) (s : aTs), rdS h l t n s → rdL h l → (∀ h', rdR h h' l t n (fc s) → Q none h') → mC G kX4_readFactor (d + 5) b [.inr (some 27), .inl (nI o)] h Q)
    (R : rdS h l t n s) (k : rdL h l) (K : ∀ h', rdR h h' l t n (smS t n fc 160 s none true) → Q none h') : mC G kX4_readSum (d + 6) b [.inr (some 27), .inl (nI o)] h Q := by
  have hl := R.2.1.2.1
  refine qX4_readSum _ R.1 ?_
  have outer : ∀ (f i : Nat) (h1 : mH) (s1 : aTs) (w : Option Nat) (more : Bool) (c : List (Nat × Nat)), i + f = 160 → (∀ m, w = some m → m ≤ 10) → rdR h h1 l t n (s1, c) → ((smS t n fc f s1 w more).1, c ++ (smS t n fc f s1 w more).2) = smS t n fc 160 s none true →
      mW G kX4_readSum (d + 6) b 7 [some (.inr (some 27)), some (.inl (nI o)), some (.inl (oI2 w)), some (.inl (b2i more)), some (.inl (nI i)), none, none] [] h1 Q := by
    intro f
    induction f with
    | zero =>
      intro i h1 s1 w more c hi hw a e
      have KK : Q none h1 := K h1 (by rw [← e]; show rdR h h1 l t n (s1, c ++ []); rw [List.append_nil]; exact a)
      exact qX4_readSum_7 _ _ _ _ a.2.1.1 ⟨fun _ => KK, fun _ => ⟨fun _ => KK, fun z => absurd (nI_le (a := 160) (by omega) (by omega)) z⟩⟩
    | succ f ih =>
      intro i h1 s1 w more c hi hw a e
      cases more with
      | false =>
        have KK : Q none h1 := K h1 (by rw [← e]; show rdR h h1 l t n (s1, c ++ []); rw [List.append_nil]; exact a)
        exact qX4_readSum_7 _ _ _ _ a.2.1.1 ⟨fun _ => KK, fun z => absurd rfl z⟩
      | true =>
        rw [sm_st] at e
        have wI := oI2_m hw
        -- the end of a term
        have next : ∀ (h3 : mH) (x : Int32) (w3 : Int32), rdR h h3 l t n ((smK t n fc s1).2, c ++ ((fc s1).2 ++ (tmQ t n fc s1).2 ++ wtL w)) → x = oI2 (smK t n fc s1).1 → w3 = (if x = (-1) then 0 else 1) →
            mW G kX4_readSum (d + 6) b 7 [some (.inr (some 27)), some (.inl (nI o)), some (.inl x), some (.inl w3), some (.inl (nI i + 1)), none, none] [] h3 Q := by
          intro h3 x w3 a3 ex ew
          have hb2 : ∀ m, (smK t n fc s1).1 = some m → m ≤ 10 := fun m hm => by have := toO_b hm; omega
          rw [ew, ex, (oI2_m hb2).2, nI_1]
          refine ih (i + 1) h3 _ _ _ _ (by omega) hb2 a3 ?_
          rw [← e]
          simp [List.append_assoc]
        have endF : ∀ h3, rdR h h3 l t n ((tmQ t n fc s1).1, c ++ ((fc s1).2 ++ (tmQ t n fc s1).2)) → ((oI2 w = (-1) → mC G kX4_takesOneOf (d + 5) (0, 0) [.inr (some 27), .inl 43, .inl 45, .inl 45, .inl 2] h3 (fun r h1 => ∃ x2, r = some (.inl x2) ∧ mSk h1 ∧ ∀ w3 : Int32, w3 = (if x2 = (-1) then 0 else 1) → mW G kX4_readSum (d + 6) b 7 [some (.inr (some 27)), some (.inl (nI o)), some (.inl x2), some (.inl w3), some (.inl (nI i + 1)), none, none] [] h1 Q)) ∧ (¬ oI2 w = (-1) → ∃ y6, mR h3 27 1 = some y6 ∧ mT h3 y6 = 4 ∧ mC G kX3_add (d + 5) (0, 0) [.inr (some y6), .inl (oI2 w), .inl 0] h3 (fun r h7 => ∃ x8, r = some (.inl x8) ∧ mSk h7 ∧ mT h7 y6 = 4 ∧ mC G kX4_takesOneOf (d + 5) (0, 0) [.inr (some 27), .inl 43, .inl 45, .inl 45, .inl 2] h7 (fun r h9 => ∃ x10, r = some (.inl x10) ∧ mSk h9 ∧ mT h9 y6 = 4 ∧ ∀ w11 : Int32, w11 = (if x10 = (-1) then 0 else 1) → mW G kX4_readSum (d + 6) b 7 [some (.inr (some 27)), some (.inl (nI o)), some (.inl x10), some (.inl w11), some (.inl (nI i + 1)), none, none] [] h9 Q)))) := by
          intro h3 a3
          refine ⟨fun z => ?_, fun z => ?_⟩
          · have w0 := wI.1.mp z
            refine c4_takesOneOf (d := d + 3) (a1 := 43) (a2 := 45) (a3 := 45) (k := 2) a3.2.1 (by omega) (by omega) (by omega) (fun h4 f4 R4 => ⟨_, rfl, R4.1, fun w3 e3 => next h4 _ w3 (a3.trc (rdR.sg f4 (fun a k z => by omega) hl R4) ?_) rfl e3⟩)
            rw [w0]; simp [wtL]
          · cases hw0 : w with
            | none => rw [hw0] at z; exact absurd rfl z
            | some m =>
              refine ⟨l, a3.2.1.2.1.1, law_t a3.2.1.1 hl, c4_add (o := m) (v := 0) a3.2.1 (a3.2.2.L k) (cO_s (hw m hw0)) (fun h5 x5 a5 => ⟨_, rfl, a5.2.1.1, law_t a5.2.1.1 hl, ?_⟩)⟩
              have a6 := a3.tr a5
              refine c4_takesOneOf (d := d + 3) (a1 := 43) (a2 := 45) (a3 := 45) (k := 2) a6.2.1 (by omega) (by omega) (by omega) (fun h4 f4 R4 => ⟨_, rfl, R4.1, law_t R4.1 hl, fun w3 e3 => next h4 _ w3 (a6.trc (rdR.sg f4 (fun a k z => by omega) hl R4) ?_) rfl e3⟩)
              rw [hw0]; simp [wtL]
        -- the factors of a term
        have inner : ∀ (f2 k2 : Nat) (h3 : mH) (s3 : aTs) (od : Option Nat) (c3 : List (Nat × Nat)), k2 + f2 = 160 → (∀ m, od = some m → m ≤ 10) → rdR h h3 l t n (s3, c3) → ((tmS t n fc f2 s3 od).1, c3 ++ (tmS t n fc f2 s3 od).2) = ((tmQ t n fc s1).1, c ++ ((fc s1).2 ++ (tmQ t n fc s1).2)) →
            mW G kX4_readSum (d + 6) b 40 [some (.inr (some 27)), some (.inl (nI o)), some (.inl (oI2 w)), none, some (.inl (nI i)), some (.inl (oI2 od)), some (.inl (nI k2))] [] h3 Q := by
          intro f2
          induction f2 with
          | zero =>
            intro k2 h3 s3 od c3 hk2 hod a3 e3
            have a4 : rdR h h3 l t n ((tmQ t n fc s1).1, c ++ ((fc s1).2 ++ (tmQ t n fc s1).2)) := by
              rw [← e3]; show rdR h h3 l t n (s3, c3 ++ []); rw [List.append_nil]; exact a3
            exact qX4_readSum_40 _ _ _ _ _ a3.2.1.1 ⟨fun _ => endF h3 a4, fun _ => ⟨fun _ => endF h3 a4, fun z => absurd (nI_le (a := 160) (by omega) (by omega)) z⟩⟩
          | succ f2 ih2 =>
            intro k2 h3 s3 od c3 hk2 hod a3 e3
            have oI := oI2_m hod
            cases hod0 : od with
            | none =>
              rw [hod0, tm_n] at e3
              have a4 : rdR h h3 l t n ((tmQ t n fc s1).1, c ++ ((fc s1).2 ++ (tmQ t n fc s1).2)) := by
                rw [← e3]; show rdR h h3 l t n (s3, c3 ++ []); rw [List.append_nil]; exact a3
              exact qX4_readSum_40 _ _ _ _ _ a3.2.1.1 ⟨fun _ => endF h3 a4, fun z => absurd rfl z⟩
            | some m =>
              rw [hod0] at oI e3
              have hm := hod m hod0
              rw [tm_s] at e3
              refine qX4_readSum_40 _ _ _ _ _ a3.2.1.1 ⟨fun z => (nI_nmb (show m < 100000 by omega) z).elim, fun _ => ⟨fun z => absurd z (nI_ge (b := 160) (by omega) (by omega)), fun _ => ?_⟩⟩
              refine HF _ _ _ s3 a3.2.1 (a3.2.2.L k) (fun h4 a4 => ⟨rfl, a4.2.1.1, l, a4.2.1.2.1.1, law_t a4.2.1.1 hl, ?_⟩)
              have a5 : rdR h h4 l t n ((fc s3).1, c3 ++ (fc s3).2) := a3.tr (r := (s3, c3)) (s := (fc s3).1) (c := (fc s3).2) a4
              refine c4_add (o := m) (v := 0) a5.2.1 (a5.2.2.L k) (cO_s hm) (fun h6 x6 a6 => ⟨_, rfl, a6.2.1.1, law_t a6.2.1.1 hl, ?_⟩)
              have a7 := a5.tr a6
              refine c4_takesOneOf (d := d + 3) (a1 := 42) (a2 := 47) (a3 := 37) (k := 4) a7.2.1 (by omega) (by omega) (by omega) (fun h8 f8 R8 => ⟨_, rfl, R8.1, law_t R8.1 hl, ?_⟩)
              rw [nI_1]
              refine ih2 (k2 + 1) h8 _ _ (c3 ++ (fc s3).2 ++ [(m, 0)]) (by omega) (fun m' hm' => by have := toO_b hm'; omega) (a7.trc (rdR.sg f8 (fun a k z => by omega) hl R8) (by simp)) ?_
              rw [← e3]
              simp [List.append_assoc]
        refine qX4_readSum_7 _ _ _ _ a.2.1.1 ⟨fun z => absurd z (by decide), fun _ => ⟨fun z => absurd z (nI_ge (b := 160) (by omega) (by omega)), fun _ => ?_⟩⟩
        refine HF _ _ _ s1 a.2.1 (a.2.2.L k) (fun h2 a2 => ⟨rfl, a2.2.1.1, ?_⟩)
        have a3 : rdR h h2 l t n ((fc s1).1, c ++ (fc s1).2) := a.tr (r := (s1, c)) (s := (fc s1).1) (c := (fc s1).2) a2
        refine c4_takesOneOf (d := d + 3) (a1 := 42) (a2 := 47) (a3 := 37) (k := 4) a3.2.1 (by omega) (by omega) (by omega) (fun h4 f4 R4 => ⟨_, rfl, R4.1, ?_⟩)
        refine inner 160 0 h4 _ _ (c ++ (fc s1).2) (by omega) (fun m' hm' => by have := toO_b hm'; omega) (a3.trc (rdR.sg f4 (fun a k z => by omega) hl R4) (by simp)) ?_
        show ((tmQ t n fc s1).1, c ++ (fc s1).2 ++ (tmQ t n fc s1).2) = _
        rw [List.append_assoc]
  exact outer 160 0 h s none true [] (by omega) (fun m z => by cases z) ⟨mFr2.rf, R, apC.rf⟩ rfl
/-- sums and factors with e more brackets allowed -/
theorem c4_sum {l n : Nat} {t : Nat → Nat} : ∀ (e d : Nat), e ≤ 6 → ∀ (h : mH) (Q : Option mV → mH → Prop) (b : Nat × Nat) (s : aTs), rdS h l t n s → rdL h l → (∀ h', rdR h h' l t n (sumS t n e s) → Q none h') → mC G kX4_readSum (d + 2 * e + 7) b [.inr (some 27), .inl (nI (6 - e))] h Q
  | 0, d, he, h, Q, b, s, R, k, K => by
    refine c4_sumL (d := d + 1) (fc := facS t n 0) (fun h Q b s R k K => ?_) R k (by rw [← sumS_eq]; exact K)
    exact c4_readFactor (d := d) (S0 := none) (o := 6) (by omega) (fun _ => rfl) (fun S z => by cases z) R k K
  | e + 1, d, he, h, Q, b, s, R, k, K => by
    refine c4_sumL (d := d + 2 * (e + 1) + 1) (fc := facS t n (e + 1)) (fun h Q b s R k K => ?_) R k (by rw [← sumS_eq]; exact K)
    refine c4_readFactor (d := d + 2 * (e + 1)) (S0 := some (sumS t n e)) (o := 6 - (e + 1)) (by omega) (fun z => by cases z) (fun S z => ⟨by omega, fun h Q b s R k K => ?_⟩) R k K
    cases z
    rw [show 6 - (e + 1) + 1 = 6 - e by omega]
    exact c4_sum e d (by omega) h Q b s R k K
end
