/-! clauses (class) -/
/-- one clause, up to its sum; then all of it -/
def c1S (t : Nat → Nat) (n : Nat) (x : aTr) : aTr := ((sumS t n 6 (exS t n 118 x.1)).1, x.2 ++ (sumS t n 6 (exS t n 118 x.1)).2)
def c2S (t : Nat → Nat) (n : Nat) (x : aTr) : aTr := cdS t n (pcS t n 5) 160 (exS t n 40 (c1S t n x).1, (c1S t n x).2) none none true
def c3S (t : Nat → Nat) (n : Nat) (x : aTr) : aTr := (exS t n 41 (c2S t n x).1, (c2S t n x).2)
def mrS (n : Nat) (s : aTs) : Bool := decide (s.1 = 0 ∧ s.2 < n)
def clS (t : Nat → Nat) (n : Nat) : Nat → aTr → List (Nat × Nat) → Bool → aTr × List (Nat × Nat) × Bool
  | 0, x, M, m => (x, M, m)
  | _ + 1, x, M, false => (x, M, false)
  | f + 1, x, M, true => clS t n f (if mrS n (c3S t n x).1 then exS t n 59 (c3S t n x).1 else (c3S t n x).1, (c3S t n x).2) (M ++ [((c1S t n x).2.length, (c3S t n x).2.length)]) (mrS n (c3S t n x).1)
theorem cl_st {t : Nat → Nat} {n f : Nat} {x : aTr} {M : List (Nat × Nat)} : clS t n (f + 1) x M true = clS t n f (if mrS n (c3S t n x).1 then exS t n 59 (c3S t n x).1 else (c3S t n x).1, (c3S t n x).2) (M ++ [((c1S t n x).2.length, (c3S t n x).2.length)]) (mrS n (c3S t n x).1) := rfl
def enS (t : Nat → Nat) (n : Nat) (s : aTs) (m : Bool) : aTs := if m then stS (if sgS t n s = 118 then 4 else 1) s else s
def anS (s : aTs) (M : List (Nat × Nat)) : Int32 := if s.1 = 0 then nI M.length else -1000 * nI s.1 - nI s.2
def aRc (l : Nat) : Nat → Nat → Prop := fun a k => aRd l a k ∨ (a = l ∧ k = 5) ∨ a = l + 2 ∨ a = l + 3
/-- so far the law has these clauses -/
def rdK (h h1 : mH) (l : Nat) (t : Nat → Nat) (n : Nat) (s : aTs) (C M : List (Nat × Nat)) : Prop := mFr2 (aRc l) h h1 ∧ rdS h1 l t n s ∧ cdC h1 l s C ∧ mI h1 l 5 = nI M.length ∧ mI h1 (l + 2) 0 = mI h (l + 2) 0 ∧ (s.1 = 0 → C.length ≤ 160 → ∀ q, q < M.length → mI h1 (l + 3) q = nI (M.getD q (0, 0)).1 ∧ mI h1 (l + 2) (q + 1) = nI (M.getD q (0, 0)).2)
/-- reading leaves the clauses -/
theorem rdK.rd {h h1 h2 : mH} {l n : Nat} {t : Nat → Nat} {s : aTs} {C M : List (Nat × Nat)} {r : aTr} (a : rdK h h1 l t n s C M) (a2 : rdQ h1 h2 l t n r) (hs : r.1.1 = 0 → s.1 = 0) (hC : C.length ≤ r.2.length) : rdK h h2 l t n r.1 r.2 M := by
  obtain ⟨a1, b1, c1, d1, e1, g1⟩ := a
  obtain ⟨a2, b2, c2⟩ := a2
  have hl := b1.2.1.2.1
  refine ⟨a1.tr (a2.wk (fun a k z => Or.inl z)), b2, c2, ?_, ?_, fun z hb q hq => ?_⟩
  · rw [a2.2 _ _ (by unfold aRd; omega)]; exact d1
  · rw [a2.2 _ _ (by unfold aRd; omega)]; exact e1
  · rw [a2.2 _ _ (by unfold aRd; omega), a2.2 _ _ (by unfold aRd; omega)]
    exact g1 (hs z) (by omega) q hq
theorem rdK.q {h h1 : mH} {l n : Nat} {t : Nat → Nat} {s : aTs} {C M : List (Nat × Nat)} (a : rdK h h1 l t n s C M) : rdQ h1 h1 l t n (s, C) := ⟨mFr2.rf, a.2.1, a.2.2.1⟩
section
variable {G : mG} {d : Nat} {b : Nat × Nat} {h : mH} {Q : Option mV → mH → Prop}
set_option maxHeartbeats 800000 in
theorem c4_readL {l n : Nat} {t : Nat → Nat} {h0 : mH} {z : aTr × List (Nat × Nat) × Bool} (hl : l = 16 ∨ l = 21)
    (K : ∀ h', rdK h0 h' l t n (enS t n z.1.1 z.2.2) z.1.2 z.2.1 → Q (some (.inl (anS (enS t n z.1.1 z.2.2) z.2.1))) h') : ∀ (f i : Nat) (h1 : mH) (x : aTr) (M : List (Nat × Nat)) (more : Bool), i + f = 12 → M.length ≤ i → rdK h0 h1 l t n x.1 x.2 M → clS t n f x M more = z →
      mW G kX4_read (d + 20) b 72 [some (.inr (some 27)), none, none, none, some (.inl (b2i more)), some (.inl (nI i))] [] h1 Q := by
  -- the answer
  have ans : ∀ (h1 : mH) (s : aTs), s = enS t n z.1.1 z.2.2 → rdK h0 h1 l t n s z.1.2 z.2.1 → ((¬ (mI h1 27 4) = 0 → Q (some (.inl (((-1000) * (mI h1 27 4)) - (mI h1 27 3)))) h1) ∧ ((mI h1 27 4) = 0 → ∃ y1, mR h1 27 1 = some y1 ∧ mT h1 y1 = 4 ∧ Q (some (.inl (mI h1 y1 5))) h1)) := by
    intro h1 s es a
    have KK := K h1 (by rw [← es]; exact a)
    rw [← es] at KK
    unfold anS at KK
    obtain ⟨a1, b1, c1, d1, e1, g1⟩ := a
    have z0 : nI s.1 = 0 ↔ s.1 = 0 := nI_eq (b := 0) (by have := b1.2.2.2.1; omega) (by omega)
    rw [b1.2.2.1, b1.2.2.2.2.1, z0]
    refine ⟨fun u => ?_, fun u => ⟨l, b1.2.1.1, law_t b1.1 hl, ?_⟩⟩
    · rw [if_neg u] at KK; exact KK
    · rw [if_pos u] at KK; rw [d1]; exact KK
  have fin : ∀ (h1 : mH) (v3 : Int32), rdK h0 h1 l t n z.1.1 z.1.2 z.2.1 → v3 = b2i z.2.2 → ((v3 = 0 → ((¬ (mI h1 27 4) = 0 → Q (some (.inl (((-1000) * (mI h1 27 4)) - (mI h1 27 3)))) h1) ∧ ((mI h1 27 4) = 0 → ∃ y1, mR h1 27 1 = some y1 ∧ mT h1 y1 = 4 ∧ Q (some (.inl (mI h1 y1 5))) h1))) ∧ (¬ v3 = 0 → mC G kX4_sign (d + 19) (0, 0) [.inr (some 27)] h1 (fun r h3 => ∃ x4, r = some (.inl x4) ∧ mSk h3 ∧ ∀ w5 : Int32, w5 = (if ¬ x4 = 118 then 1 else 4) → mC G kX4_stop (d + 19) (0, 0) [.inr (some 27), .inl w5] h3 (fun r h6 => r = none ∧ mSk h6 ∧ ((¬ (mI h6 27 4) = 0 → Q (some (.inl (((-1000) * (mI h6 27 4)) - (mI h6 27 3)))) h6) ∧ ((mI h6 27 4) = 0 → ∃ y7, mR h6 27 1 = some y7 ∧ mT h6 y7 = 4 ∧ Q (some (.inl (mI h6 y7 5))) h6)))))) := by
    intro h1 v3 a ev
    have R := a.2.1
    have hb := sg_b (s := z.1.1) (fun j hj => (R.2.1.2.2.2.2 j hj).1)
    have eq := sgI_eq hb (show 118 < 256 by omega)
    refine ⟨fun u => ?_, fun u => c4_sign R ⟨_, rfl, R.1, fun w5 e5 => ?_⟩⟩
    · have m0 : z.2.2 = false := by
        rw [ev] at u; revert u; cases z.2.2 <;> decide
      exact ans h1 z.1.1 (by unfold enS; rw [m0]; rfl) a
    · have m1 : z.2.2 = true := by
        rw [ev] at u; revert u; cases z.2.2 <;> decide
      have ew : w5 = nI (if sgS t n z.1.1 = 118 then 4 else 1) := by
        rw [e5]
        by_cases q : sgS t n z.1.1 = 118
        · rw [if_neg (show ¬ ¬ sgI (sgS t n z.1.1) = 118 from fun w => w (eq.mpr q)), if_pos q]; rfl
        · rw [if_pos (show ¬ sgI (sgS t n z.1.1) = 118 from fun w => q (eq.mp w)), if_neg q]; rfl
      have kb : (if sgS t n z.1.1 = 118 then 4 else 1) < 10 ∧ 0 < (if sgS t n z.1.1 = 118 then 4 else 1) := by split <;> omega
      rw [ew]
      refine c4_stop R kb.1 kb.2 (fun h3 f3 R3 => ⟨rfl, R3.1, ans h3 _ (by unfold enS; rw [m1, if_pos rfl]) ?_⟩)
      exact a.rd (r := (stS (if sgS t n z.1.1 = 118 then 4 else 1) z.1.1, z.1.2)) (a.q.sg f3 (fun a k z => by omega) hl R3 (fun z => (ad_st z kb.2).elim)) (fun z => (ad_st z kb.2).elim) (Nat.le_refl _)
  intro f
  induction f with
  | zero =>
    intro i h1 x M more hi hM a e
    have e0 : (x, M, more) = z := e
    subst e0
    refine qX4_read_72 (d := d + 13) _ _ a.2.1.1 ⟨fun _ => fin h1 _ a rfl, fun _ => ⟨fun _ => fin h1 _ a rfl, fun z => absurd (nI_le (a := 12) (by omega) (by omega)) z⟩⟩
  | succ f ih =>
    intro i h1 x M more hi hM a e
    cases more with
    | false =>
      have e0 : (x, M, false) = z := e
      subst e0
      exact qX4_read_72 (d := d + 13) _ _ a.2.1.1 ⟨fun _ => fin h1 _ a rfl, fun z => absurd rfl z⟩
    | true =>
      rw [cl_st] at e
      obtain ⟨y1, ey1⟩ : ∃ y, y = c1S t n x := ⟨_, rfl⟩
      obtain ⟨y2, ey2⟩ : ∃ y, y = c2S t n x := ⟨_, rfl⟩
      obtain ⟨y3, ey3⟩ : ∃ y, y = c3S t n x := ⟨_, rfl⟩
      rw [← ey1, ← ey3] at e
      have eq2 : y2 = cdS t n (pcS t n 5) 160 (exS t n 40 y1.1, y1.2) none none true := by rw [ey2, ey1]; unfold c2S; rfl
      have eq3 : y3 = (exS t n 41 y2.1, y2.2) := by rw [ey3, ey2]; unfold c3S; rfl
      refine qX4_read_72 (d := d + 13) _ _ a.2.1.1 ⟨fun z => absurd z (by decide), fun _ => ⟨fun z => absurd z (nI_ge (b := 12) (by omega) (by omega)), fun _ => ?_⟩⟩
      refine c4_expect (d := d + 18) (c := 118) a.2.1 (by omega) (fun h2 f2 R2 => ⟨rfl, R2.1, ?_⟩)
      have a2 : rdK h0 h2 l t n (exS t n 118 x.1) x.2 M := a.rd (r := (exS t n 118 x.1, x.2)) (a.q.sg f2 (fun a k z => by omega) hl R2 ex_0) ex_0 (Nat.le_refl _)
      refine c4_sum 6 d (by omega) _ _ _ _ R2 a2.2.2.1.1 (fun h3 a3 => ⟨rfl, a3.2.1.1, l, a3.2.1.2.1.1, law_t a3.2.1.1 hl, ?_⟩)
      obtain ⟨r3, er3⟩ : ∃ r, r = sumS t n 6 (exS t n 118 x.1) := ⟨_, rfl⟩
      have ec1 : y1 = (r3.1, x.2 ++ r3.2) := by rw [ey1]; unfold c1S; rw [er3]
      rw [← er3] at a3
      have sr3 : r3.1.1 = 0 → (exS t n 118 x.1).1 = 0 := fun z => Classical.byContradiction (fun u => fk_sum 6 _ u (by rw [← er3]; exact z))
      have st3 : y1.1.1 = 0 → (exS t n 118 x.1).1 = 0 := by rw [ec1]; exact sr3
      have ln3 : x.2.length ≤ y1.2.length := by rw [ec1]; show _ ≤ (x.2 ++ r3.2).length; rw [List.length_append]; exact Nat.le_add_right _ _
      have q3 : rdQ h2 h3 l t n y1 := by
        rw [ec1]
        exact a2.q.ap (s := r3.1) (c := r3.2) a3 sr3
      have k3 : rdK h0 h3 l t n y1.1 y1.2 M := a2.rd q3 st3 ln3
      -- the end of the sum
      obtain ⟨L3, hL3, eL3⟩ := k3.2.2.1.1
      have e35 := k3.2.2.2.1
      refine qX3_endSum l (law_t a3.2.1.1 hl) a3.2.1.1 ?_
      rw [e35, nI_clamp (show M.length < 2 ^ 31 by omega)]
      refine ⟨fun z => absurd z (nI_ge (b := 12) (by omega) (by omega)), fun _ => ⟨vp_in_nI (by omega) (by omega), fun h4 e4 => ?_⟩⟩
      have f4 : mFr2 (fun a k => a = l + 3 ∧ k = M.length) h3 h4 := by rw [e4]; exact mFr2.SI ⟨rfl, rfl⟩
      have R4 : rdS h4 l t n y1.1 := by
        obtain ⟨r1, r2, r3, r4, r5, r6⟩ := k3.2.1
        exact ⟨f4.1.sk r1, r2.fr f4 (by omega) (fun k => by omega), by rw [f4.2 _ _ (by omega)]; exact r3, r4, by rw [f4.2 _ _ (by omega)]; exact r5, r6⟩
      have C4 : cdC h4 l y1.1 y1.2 := by
        refine ⟨⟨L3, hL3, by rw [f4.2 _ _ (by omega)]; exact eL3⟩, fun z hb => ?_⟩
        obtain ⟨u1, u2⟩ := k3.2.2.1.2 z hb
        exact ⟨by rw [f4.2 _ _ (by omega)]; exact u1, fun i hi => by rw [f4.2 _ _ (by omega)]; exact u2 i hi⟩
      have k4 : rdK h0 h4 l t n y1.1 y1.2 M := by
        refine ⟨k3.1.tr (f4.wk (fun a k z => Or.inr (Or.inr (Or.inr z.1)))), R4, C4, by rw [f4.2 _ _ (by omega)]; exact e35, by rw [f4.2 _ _ (by omega)]; exact k3.2.2.2.2.1, fun z hb q hq => ?_⟩
        rw [f4.2 _ _ (by omega), f4.2 _ _ (by omega)]
        exact k3.2.2.2.2.2 z hb q hq
      have m4 : y1.1.1 = 0 → y1.2.length ≤ 160 → mI h4 (l + 3) M.length = nI y1.2.length := fun z hb => by
        rw [e4, mI_SI_s]; exact (k3.2.2.1.2 z hb).1
      refine ⟨rfl, R4.1, law_t R4.1 hl, c4_expect (d := d + 18) (c := 40) R4 (by omega) (fun h5 f5 R5 => ⟨rfl, R5.1, law_t R5.1 hl, ?_⟩)⟩
      have k5 : rdK h0 h5 l t n (exS t n 40 y1.1) y1.2 M := k4.rd (r := (exS t n 40 y1.1, y1.2)) (k4.q.sg f5 (fun a k z => by omega) hl R5 ex_0) ex_0 (Nat.le_refl _)
      refine c4_cond 5 d (by omega) (exS t n 40 y1.1, y1.2) k5.2.1 k5.2.2.1 (fun h6 a6 => ⟨rfl, a6.2.1.1, law_t a6.2.1.1 hl, ?_⟩)
      have st6 : y2.1.1 = 0 → (exS t n 40 y1.1).1 = 0 := by
        rw [eq2]
        exact fun z => Classical.byContradiction (fun u => fk_cd (fun x z => fk_pc 5 x z) 160 (exS t n 40 y1.1, y1.2) none none true u z)
      have ln6 : y1.2.length ≤ y2.2.length := by
        rw [eq2]
        exact ln_cd (fun x => ln_pc 5 x) 160 (exS t n 40 y1.1, y1.2) none none true
      have a6' : rdQ h5 h6 l t n y2 := by rw [eq2]; exact a6
      have k6 : rdK h0 h6 l t n y2.1 y2.2 M := k5.rd (r := y2) a6' st6 ln6
      refine c4_expect (d := d + 18) (c := 41) k6.2.1 (by omega) (fun h7 f7 R7 => ⟨rfl, R7.1, law_t R7.1 hl, l, R7.2.1.1, law_t R7.1 hl, ?_⟩)
      have s73 : y3.1.1 = 0 → y2.1.1 = 0 := by rw [eq3]; exact ex_0
      have l73 : y3.2 = y2.2 := by rw [eq3]
      have k7 : rdK h0 h7 l t n y3.1 y3.2 M := by
        rw [eq3]
        exact k6.rd (r := (exS t n 41 y2.1, y2.2)) (k6.q.sg f7 (fun a k z => by omega) hl R7 ex_0) ex_0 (Nat.le_refl _)
      have m7 : y3.1.1 = 0 → y3.2.length ≤ 160 → mI h7 (l + 3) M.length = nI y1.2.length := fun z hb => by
        rw [f7.2 _ _ (by omega), a6.1.2 _ _ (by unfold aRd; omega), f5.2 _ _ (by omega)]
        exact m4 (ex_0 (st6 (s73 z))) (Nat.le_trans ln6 (by rw [← l73]; exact hb))
      -- the end of the clause
      obtain ⟨L7, hL7, eL7⟩ := k7.2.2.1.1
      have e75 := k7.2.2.2.1
      refine qX3_endClause l (law_t R7.1 hl) R7.1 ?_
      rw [e75]
      refine ⟨fun z => absurd z (nI_ge (b := 12) (by omega) (by omega)), fun _ h8 e8 => ?_⟩
      have e85 : mI h8 l 5 = nI (M.length + 1) := by rw [e8, mI_SI_s, nI_1]
      have e84 : mI h8 l 4 = nI L7 := by rw [e8, mI_SI_k (by omega)]; exact eL7
      rw [e85, nI_clamp (show M.length + 1 < 2 ^ 31 by omega)]
      refine ⟨vp_in_nI (by omega) (by omega), fun h9 e9 => ?_⟩
      have f9 : mFr2 (fun a k => (a = l ∧ k = 5) ∨ (a = l + 2 ∧ k = M.length + 1)) h7 h9 := by
        rw [e9, e8]
        exact (mFr2.SI (A := fun a k => (a = l ∧ k = 5) ∨ (a = l + 2 ∧ k = M.length + 1)) (Or.inl ⟨rfl, rfl⟩)).tr (mFr2.SI (A := fun a k => (a = l ∧ k = 5) ∨ (a = l + 2 ∧ k = M.length + 1)) (Or.inr ⟨rfl, rfl⟩))
      have R9 : rdS h9 l t n y3.1 := by
        obtain ⟨r1, r2, r3, r4, r5, r6⟩ := k7.2.1
        exact ⟨f9.1.sk r1, r2.fr f9 (by omega) (fun k => by omega), by rw [f9.2 _ _ (by omega)]; exact r3, r4, by rw [f9.2 _ _ (by omega)]; exact r5, r6⟩
      have C9 : cdC h9 l y3.1 y3.2 := by
        refine ⟨⟨L7, hL7, by rw [f9.2 _ _ (by omega)]; exact eL7⟩, fun z hb => ?_⟩
        obtain ⟨u1, u2⟩ := k7.2.2.1.2 z hb
        exact ⟨by rw [f9.2 _ _ (by omega)]; exact u1, fun i hi => by rw [f9.2 _ _ (by omega)]; exact u2 i hi⟩
      have lM : (M ++ [(y1.2.length, y3.2.length)]).length = M.length + 1 := by simp
      have k9 : rdK h0 h9 l t n y3.1 y3.2 (M ++ [(y1.2.length, y3.2.length)]) := by
        refine ⟨k7.1.tr (f9.wk (fun a k z => Or.inr (by omega))), R9, C9, by rw [lM, e9, mI_SI_a (by omega)]; exact e85, by rw [f9.2 _ _ (by omega)]; exact k7.2.2.2.2.1, fun z hb q hq => ?_⟩
        rw [lM] at hq
        by_cases q1 : q = M.length
        · subst q1
          rw [f9.2 (l + 3) _ (by omega), m7 z hb, e9, mI_SI_s, e84]
          have : nI L7 = nI y3.2.length := by rw [← eL7]; exact (k7.2.2.1.2 z hb).1
          rw [this]
          simp [List.getD]
        · rw [f9.2 (l + 3) _ (by omega), f9.2 (l + 2) _ (by omega)]
          have := k7.2.2.2.2.2 z hb q (by omega)
          rw [show (M ++ [(y1.2.length, y3.2.length)]).getD q (0, 0) = M.getD q (0, 0) from by simp [List.getD, List.getElem?_append_left (show q < M.length by omega)]]
          exact this
      obtain ⟨r1, r2, r3, r4, r5, r6⟩ := R9
      have z0 : nI y3.1.1 = 0 ↔ y3.1.1 = 0 := nI_eq (b := 0) (by omega) (by omega)
      have hn160 := r2.2.2.2.1
      refine ⟨rfl, r1, law_t r1 hl, law_t r1 hl, ?_⟩
      rw [r3, z0, nI_1]
      refine ⟨fun nz => ⟨fun _ => ?_, fun z => absurd rfl z⟩, fun nz w34 e34 => ?_⟩
      · have m0 : mrS n y3.1 = false := decide_eq_false (fun u => nz u.1)
        rw [m0] at e
        exact ih (i + 1) h9 _ _ false (by omega) (by omega) k9 e
      · rw [r2.2.2.1, r5] at e34
        have i34 : nI n ≤ nI y3.1.2 ↔ n ≤ y3.1.2 := nI_leI (by omega) (by omega)
        by_cases q : n ≤ y3.1.2
        · have m0 : mrS n y3.1 = false := decide_eq_false (fun u => by omega)
          rw [if_pos (i34.mpr q)] at e34
          rw [m0] at e
          rw [e34]
          exact ⟨fun _ => ih (i + 1) h9 _ _ false (by omega) (by omega) k9 e, fun z => absurd rfl z⟩
        · have m1 : mrS n y3.1 = true := decide_eq_true ⟨nz, by omega⟩
          rw [if_neg (show ¬ nI n ≤ nI y3.1.2 from fun u => q (i34.mp u))] at e34
          rw [m1] at e
          rw [e34]
          refine ⟨fun z => absurd z (by decide), fun _ => c4_expect (d := d + 18) (c := 59) k9.2.1 (by omega) (fun h10 f10 R10 => ⟨rfl, R10.1, law_t R10.1 hl, law_t R10.1 hl, ?_⟩)⟩
          have k10 := k9.rd (r := (exS t n 59 y3.1, y3.2)) (k9.q.sg f10 (fun a k z => by omega) hl R10 ex_0) ex_0 (Nat.le_refl _)
          exact ih (i + 1) h10 _ _ true (by omega) (by omega) k10 e
end
