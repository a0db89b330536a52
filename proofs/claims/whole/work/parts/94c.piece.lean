/-! pieces (class) -/
def pcX (t : Nat → Nat) (n : Nat) (sm : aTs → aTr) (P : Option (aTr → aTr)) (x : aTr) : aTr :=
  if sgS t n x.1 = 33 then (match P with
    | none => (stS 5 x.1, x.2)
    | some p => ((p (adS x.1, x.2)).1, (p (adS x.1, x.2)).2 ++ [(10, 0)]))
  else if sgS t n x.1 = 40 then (match P with
    | none => (stS 5 x.1, x.2)
    | some p => (exS t n 41 (cdS t n p 160 (adS x.1, x.2) none none true).1, (cdS t n p 160 (adS x.1, x.2) none none true).2))
  else cmS t n sm x
theorem pcS_0 (t : Nat → Nat) (n : Nat) (x : aTr) : pcS t n 0 x = pcX t n (sumS t n 0) none x := rfl
theorem pcS_s (t : Nat → Nat) (n e : Nat) (x : aTr) : pcS t n (e + 1) x = pcX t n (sumS t n (e + 1)) (some (pcS t n e)) x := rfl
theorem ad_st {k : Nat} {s : aTs} (h : (stS k s).1 = 0) (hk : 0 < k) : False := by
  unfold stS at h
  by_cases z : s.1 = 0
  · rw [if_pos z] at h; simp at h; omega
  · rw [if_neg z] at h; exact z h
theorem ex_0 {t : Nat → Nat} {n c : Nat} {s : aTs} (h : (exS t n c s).1 = 0) : s.1 = 0 := Classical.byContradiction (fun z => fk_ex z h)
section
variable {G : mG} {d : Nat} {b : Nat × Nat} {h : mH} {Q : Option mV → mH → Prop}
theorem c4_opens {l n o : Nat} {t : Nat → Nat} {s : aTs} (R : rdS h l t n s) (ho : o ≤ 6) (hs : sgS t n s ≠ 999) (K0 : o = 6 → ∀ h', mFr2 (fun a k => a = 27 ∧ k = 4) h h' → rdS h' l t n (stS 5 s) → Q (some (.inl 0)) h') (K1 : o < 6 → ∀ h', mFr2 (fun a k => a = 27 ∧ k = 3) h h' → rdS h' l t n (adS s) → Q (some (.inl 1)) h') : mC G kX4_opens (d + 1) b [.inr (some 27), .inl (nI o)] h Q := by
  refine qX4_opens _ R.1 ⟨fun lt h1 e1 => ?_, fun nl => ?_⟩
  · rw [show (6 : Int32) = nI 6 from rfl, nI_ltI (by omega) (by omega)] at lt
    obtain ⟨f3, R3⟩ := R.ad hs
    rw [e1]
    exact K1 lt _ f3 R3
  · rw [show (6 : Int32) = nI 6 from rfl, nI_ltI (by omega) (by omega)] at nl
    exact c4_stop (k := 5) R (by omega) (by omega) (fun h3 f3 R3 => ⟨rfl, R3.1, K0 (by omega) h3 f3 R3⟩)
set_option maxHeartbeats 1000000 in
theorem c4_pieceL {l n o : Nat} {t : Nat → Nat} {x : aTr} {sm : aTs → aTr} {P : Option (aTr → aTr)} (ho : o ≤ 6) (hN : P = none → o = 6)
    (fs : ∀ s : aTs, s.1 ≠ 0 → (sm s).1.1 ≠ 0)
    (HS : ∀ (h : mH) (Q : Option mV → mH → Prop) (b : Nat × Nat) (s : aTs), rdS h l t n s → rdL h l → (∀ h', rdR h h' l t n (sm s) → Q none h') → mC G kX4_readSum (d + 5) b [.inr (some 27), .inl (nI o)] h Q)
    (HP : ∀ p, P = some p → o < 6 ∧ (∀ x : aTr, x.1.1 ≠ 0 → (p x).1.1 ≠ 0) ∧ (∀ x : aTr, x.1.1 ≠ 0 → (cdS t n p 160 x none none true).1.1 ≠ 0) ∧ (∀ (h : mH) (Q : Option mV → mH → Prop) (b : Nat × Nat) (x : aTr), rdS h l t n x.1 → cdC h l x.1 x.2 → (∀ h', rdQ h h' l t n (p x) → Q none h') → mC G kX4_readPiece (d + 5) b [.inr (some 27), .inl (nI (o + 1))] h Q) ∧ (∀ (h : mH) (Q : Option mV → mH → Prop) (b : Nat × Nat) (x : aTr), rdS h l t n x.1 → cdC h l x.1 x.2 → (∀ h', rdQ h h' l t n (cdS t n p 160 x none none true) → Q none h') → mC G kX4_readCondition (d + 5) b [.inr (some 27), .inl (nI (o + 1))] h Q))
    (R : rdS h l t n x.1) (k : cdC h l x.1 x.2) (K : ∀ h', rdQ h h' l t n (pcX t n sm P x) → Q none h') : mC G kX4_readPiece (d + 6) b [.inr (some 27), .inl (nI o)] h Q := by
  have hl := R.2.1.2.1
  have ht : ∀ j, j < n → t j < 256 := fun j hj => (R.2.1.2.2.2.2 j hj).1
  have hb := sg_b (s := x.1) ht
  have R1 : rdQ h h l t n (x.1, x.2) := ⟨mFr2.rf, R, k⟩
  have e33 := sgI_eq hb (show 33 < 256 by omega)
  have e40 := sgI_eq hb (show 40 < 256 by omega)
  unfold pcX at K
  refine qX4_readPiece _ R.1 (c4_sign R ⟨_, rfl, R.1, fun z33 => ?_, fun z33 => ?_⟩)
  · have n33 : sgS t n x.1 ≠ 33 := fun u => z33 (e33.mpr u)
    rw [if_neg n33] at K
    refine c4_sign R ⟨_, rfl, R.1, fun z40 => ?_, fun z40 => ?_⟩
    · have n40 : sgS t n x.1 ≠ 40 := fun u => z40 (e40.mpr u)
      rw [if_neg n40] at K
      refine HS _ _ _ x.1 R k.1 (fun h2 a2 => ⟨rfl, a2.2.1.1, ?_⟩)
      have s1 : (sm x.1).1.1 = 0 → x.1.1 = 0 := fun z => Classical.byContradiction (fun u => fs _ u z)
      have q2 : rdQ h h2 l t n ((sm x.1).1, x.2 ++ (sm x.1).2) := R1.ap (r := (x.1, x.2)) (s := (sm x.1).1) (c := (sm x.1).2) a2 s1
      refine c4_takesOneOf (d := d + 3) (a1 := 60) (a2 := 62) (a3 := 61) (k := 7) q2.2.1 (by omega) (by omega) (by omega) (fun h3 f3 R3 => ⟨_, rfl, R3.1, ?_⟩)
      have ktk : (tkS t n 60 62 61 7 (sm x.1).1).2.1 = 0 → (sm x.1).1.1 = 0 := fun z => Classical.byContradiction (fun u => fk_tk u z)
      have q3 : rdQ h h3 l t n ((tkS t n 60 62 61 7 (sm x.1).1).2, x.2 ++ (sm x.1).2) := q2.sg f3 (fun a k z => by omega) hl R3 ktk
      cases hk : (tkS t n 60 62 61 7 (sm x.1).1).1 with
      | some m =>
        have hm := toO_b (show toO _ 60 62 61 7 = some m from hk)
        refine ⟨fun _ => ?_, fun z => absurd z (nI_nmb (show m < 100000 by omega))⟩
        refine HS _ _ _ _ q3.2.1 q3.2.2.1 (fun h4 a4 => ⟨rfl, a4.2.1.1, l, a4.2.1.2.1.1, law_t a4.2.1.1 hl, ?_⟩)
        have s4 : (sm (tkS t n 60 62 61 7 (sm x.1).1).2).1.1 = 0 → (tkS t n 60 62 61 7 (sm x.1).1).2.1 = 0 := fun z => Classical.byContradiction (fun u => fs _ u z)
        have q4 : rdQ h h4 l t n ((sm (tkS t n 60 62 61 7 (sm x.1).1).2).1, (x.2 ++ (sm x.1).2) ++ (sm (tkS t n 60 62 61 7 (sm x.1).1).2).2) := q3.ap (s := (sm (tkS t n 60 62 61 7 (sm x.1).1).2).1) (c := (sm (tkS t n 60 62 61 7 (sm x.1).1).2).2) a4 s4
        refine c4_add (o := m) (v := 0) q4.2.1 q4.2.2.1 (cO_s (by omega)) (fun h5 x5 a5 => ⟨_, rfl, a5.2.1.1, law_t a5.2.1.1 hl, K h5 ?_⟩)
        have q5 := q4.ap a5 (fun z => z)
        unfold cmS
        simp only [hk, Option.isSome_some, if_true, wtL]
        exact q5
      | none =>
        refine ⟨fun z => absurd rfl z, fun _ => ?_⟩
        refine c4_stop (k := 1) q3.2.1 (by omega) (by omega) (fun h4 f4 R4 => ⟨rfl, R4.1, ?_⟩)
        have q4 : rdQ h h4 l t n (stS 1 (tkS t n 60 62 61 7 (sm x.1).1).2, x.2 ++ (sm x.1).2) := q3.sg f4 (fun a k z => by omega) hl R4 (fun z => (ad_st z (by omega)).elim)
        refine HS _ _ _ _ R4 q4.2.2.1 (fun h5 a5 => ⟨rfl, a5.2.1.1, l, a5.2.1.2.1.1, law_t a5.2.1.1 hl, ?_⟩)
        refine c3_addX _ _ a5.2.1.1 hl (a5.2.2.L q4.2.2.1) (fun h6 x6 f6 L6 => ⟨_, rfl, f6.1.sk a5.2.1.1, law_t (f6.1.sk a5.2.1.1) hl, K h6 ?_⟩)
        unfold cmS
        simp only [hk, Option.isSome_none, wtL]
        refine ⟨(q4.1.tr a5.1).tr (f6.wk (fun a k z => Or.inr z)), a5.2.1.lw f6, L6, fun z => ?_⟩
        exfalso
        exact fs _ (fun u => ad_st u (by omega)) z
    · have y40 : sgS t n x.1 = 40 := e40.mp z40
      rw [if_pos y40] at K
      refine c4_opens (d := d + 4) R ho (by omega) (fun o6 h3 f3 R3 => ⟨_, rfl, R3.1, fun _ => ?_, fun u => absurd rfl u⟩) (fun o6 h3 f3 R3 => ⟨_, rfl, R3.1, fun u => absurd u (by decide), fun _ => ?_⟩)
      · cases hP : P with
        | none =>
          rw [hP] at K
          exact K h3 (R1.sg f3 (fun a k z => by omega) hl R3 (fun z => (ad_st z (by omega)).elim))
        | some p => have := (HP p hP).1; omega
      · cases hP : P with
        | none => have := hN hP; omega
        | some p =>
          rw [hP] at K
          obtain ⟨-, p1, p2, p3, p4⟩ := HP p hP
          have q3 : rdQ h h3 l t n (adS x.1, x.2) := R1.sg f3 (fun a k z => by omega) hl R3 (fun z => z)
          rw [nI_1]
          refine p4 _ _ _ (adS x.1, x.2) q3.2.1 q3.2.2 (fun h4 a4 => ⟨rfl, a4.2.1.1, c4_expect (d := d + 4) (c := 41) a4.2.1 (by omega) (fun h5 f5 R5 => ⟨rfl, R5.1, K h5 ?_⟩)⟩)
          exact (q3.tr a4).sg (s := (cdS t n p 160 (adS x.1, x.2) none none true).1) (C := (cdS t n p 160 (adS x.1, x.2) none none true).2) f5 (fun a k z => by omega) hl R5 ex_0
  · have y33 : sgS t n x.1 = 33 := e33.mp z33
    rw [if_pos y33] at K
    refine c4_opens (d := d + 4) R ho (by omega) (fun o6 h3 f3 R3 => ⟨_, rfl, R3.1, fun _ => ?_, fun u => absurd rfl u⟩) (fun o6 h3 f3 R3 => ⟨_, rfl, R3.1, fun u => absurd u (by decide), fun _ => ?_⟩)
    · cases hP : P with
      | none =>
        rw [hP] at K
        exact K h3 (R1.sg f3 (fun a k z => by omega) hl R3 (fun z => (ad_st z (by omega)).elim))
      | some p => have := (HP p hP).1; omega
    · cases hP : P with
      | none => have := hN hP; omega
      | some p =>
        rw [hP] at K
        obtain ⟨-, p1, p2, p3, p4⟩ := HP p hP
        have q3 : rdQ h h3 l t n (adS x.1, x.2) := R1.sg f3 (fun a k z => by omega) hl R3 (fun z => z)
        rw [nI_1]
        refine p3 _ _ _ (adS x.1, x.2) q3.2.1 q3.2.2 (fun h4 a4 => ⟨rfl, a4.2.1.1, l, a4.2.1.2.1.1, law_t a4.2.1.1 hl, ?_⟩)
        have q4 : rdQ h h4 l t n ((p (adS x.1, x.2)).1, (p (adS x.1, x.2)).2) := q3.tr a4
        refine c4_add (o := 10) (v := 0) q4.2.1 q4.2.2.1 rfl (fun h5 x5 a5 => ⟨_, rfl, a5.2.1.1, law_t a5.2.1.1 hl, K h5 ?_⟩)
        exact q4.ap a5 (fun z => z)
/-- pieces and conditions with e more brackets allowed -/
theorem c4_pc {l n : Nat} {t : Nat → Nat} : ∀ (e d : Nat), e ≤ 6 → ∀ (h : mH) (Q : Option mV → mH → Prop) (b : Nat × Nat) (x : aTr), rdS h l t n x.1 → cdC h l x.1 x.2 → (∀ h', rdQ h h' l t n (pcS t n e x) → Q none h') → mC G kX4_readPiece (d + 2 * e + 8) b [.inr (some 27), .inl (nI (6 - e))] h Q
  | 0, d, he, h, Q, b, x, R, k, K => by
    refine c4_pieceL (d := d + 2) (sm := sumS t n 0) (P := none) (o := 6) (by omega) (fun _ => rfl) (fun s z => fk_sum 0 s z) (fun h Q b s R k K => c4_sum 0 d (by omega) h Q b s R k K) (fun p z => by cases z) R k (fun h' a => K h' a)
  | e + 1, d, he, h, Q, b, x, R, k, K => by
    refine c4_pieceL (d := d + 2 * (e + 1) + 2) (sm := sumS t n (e + 1)) (P := some (pcS t n e)) (o := 6 - (e + 1)) (by omega) (fun z => by cases z) (fun s z => fk_sum (e + 1) s z) (fun h Q b s R k K => c4_sum (e + 1) d (by omega) h Q b s R k K) (fun p z => ?_) R k (fun h' a => K h' a)
    cases z
    refine ⟨by omega, fun x z => fk_pc e x z, fun x z => fk_cd (fun x z => fk_pc e x z) 160 x none none true z, fun h Q b x R k K => ?_, fun h Q b x R k K => ?_⟩
    · rw [show 6 - (e + 1) + 1 = 6 - e by omega]
      have hc := c4_pc e (d + 1) (by omega) h Q b x R k K
      rw [show d + 1 + 2 * e + 8 = d + 2 * (e + 1) + 2 + 5 by omega] at hc
      exact hc
    · rw [show 6 - (e + 1) + 1 = 6 - e by omega]
      exact c4_condL (d := d + 2 * e + 3) (fun x z => fk_pc e x z) (fun x => ln_pc e x) (fun h Q b x R k K => c4_pc e d (by omega) h Q b x R k K) R k K
theorem c4_cond {l n : Nat} {t : Nat → Nat} (e d : Nat) (he : e ≤ 6) (x : aTr) (R : rdS h l t n x.1) (k : cdC h l x.1 x.2) (K : ∀ h', rdQ h h' l t n (cdS t n (pcS t n e) 160 x none none true) → Q none h') : mC G kX4_readCondition (d + 2 * e + 9) b [.inr (some 27), .inl (nI (6 - e))] h Q :=
  c4_condL (d := d + 2 * e + 3) (fun x z => fk_pc e x z) (fun x => ln_pc e x) (fun h Q b x R k K => c4_pc e d he h Q b x R k K) R k K
end
