/-! conditions (class) -/
theorem ln_cm {t : Nat → Nat} {n : Nat} {sm : aTs → aTr} {x : aTr} : x.2.length ≤ (cmS t n sm x).2.length := by
  show x.2.length ≤ (x.2 ++ _ ++ _ ++ _).length
  rw [List.length_append, List.length_append, List.length_append]; omega
theorem ln_cd {t : Nat → Nat} {n : Nat} {pc : aTr → aTr} (hp : ∀ x : aTr, x.2.length ≤ (pc x).2.length) : ∀ f x a c m, x.2.length ≤ (cdS t n pc f x a c m).2.length
  | 0, x, a, c, m => Nat.le_refl _
  | f + 1, x, a, c, false => Nat.le_refl _
  | f + 1, x, a, c, true => by
    rw [cd_st]
    have := hp x
    split
    · have z := ln_cd (t := t) (n := n) hp f (adS (pc x).1, aiC (pc x).2 c ++ [(11, 0)]) a (some (aiC (pc x).2 c).length) true
      simp [aiC_l] at z ⊢
      omega
    · split
      · have z := ln_cd (t := t) (n := n) hp f (adS (pc x).1, aiC (aiC (pc x).2 c) a ++ [(12, 0)]) (some (aiC (aiC (pc x).2 c) a).length) none true
        simp [aiC_l] at z ⊢
        omega
      · have z := ln_cd (t := t) (n := n) hp f ((pc x).1, aiC (aiC (pc x).2 c) a) none none false
        simp [aiC_l] at z ⊢
        omega
theorem ln_pc {t : Nat → Nat} {n : Nat} : ∀ e x, x.2.length ≤ (pcS t n e x).2.length
  | 0, x => by
    unfold pcS
    split
    · exact Nat.le_refl _
    · split
      · exact Nat.le_refl _
      · exact ln_cm
  | e + 1, x => by
    unfold pcS
    split
    · have := ln_pc (t := t) (n := n) e (adS x.1, x.2)
      rw [List.length_append]
      exact Nat.le_trans this (Nat.le_add_right _ _)
    · split
      · exact ln_cd (fun x => ln_pc e x) 160 (adS x.1, x.2) none none true
      · exact ln_cm
section
variable {G : mG} {d : Nat} {b : Nat × Nat} {h : mH} {Q : Option mV → mH → Prop}
theorem c4_addJ {l n o v : Nat} {t : Nat → Nat} {h0 : mH} {s : aTs} {C : List (Nat × Nat)} (a : rdQ h0 h l t n (s, C)) (K : ∀ h' x, rdQ h0 h' l t n (s, C ++ [(o, v)]) → skX x (some C.length) (C.length + 1) s → Q (some (.inl x)) h') : mC G kX3_add d b [.inr (some l), .inl (nI (cO o)), .inl (nI v)] h Q := by
  obtain ⟨f0, R, ⟨L, hL, eL⟩, kC0⟩ := a
  have hl := R.2.1.2.1
  have kC : s.1 = 0 → C.length ≤ 160 → mI h l 4 = nI C.length ∧ ∀ i, i < C.length → mI h (l + 1) i = cv (C.getD i (0, 0)) := kC0
  have hLC : s.1 = 0 → C.length ≤ 160 → L = C.length := fun s0 hb => by
    have := (kC s0 hb).1
    rw [eL] at this
    exact nI_bk (by omega) (by omega) this
  refine qX3_add l _ _ (law_t R.1 hl) R.1 ?_
  rw [eL, nI_ltI (by omega) (by omega), nI_clamp (show L < 2 ^ 31 by omega)]
  refine ⟨fun z => ⟨vp_in_nI z (by omega), fun h2 e2 h3 e3 => ?_⟩, fun z => K h _ ⟨f0, R, ⟨L, hL, eL⟩, fun s0 hb => ?_⟩ ⟨fun u => (by cases u), fun j hj s0 hb => ?_⟩⟩
  · have ev : nI v * 16 + nI (cO o) = nI (16 * v + cO o) := by rw [show (16 : Int32) = nI 16 from rfl, pk_mul, nI_add, Nat.mul_comm]
    have e24 : mI h2 l 4 = nI L := by rw [e2, mI_SI_a (by omega)]; exact eL
    rw [e24, nI_1] at e3
    have e34 : mI h3 l 4 = nI (L + 1) := by rw [e3, mI_SI_s]
    have f3 : mFr2 (fun a k => (a = l ∧ k = 4) ∨ a = l + 1) h h3 := by
      rw [e3, e2]
      exact (mFr2.SI (A := fun a k => (a = l ∧ k = 4) ∨ a = l + 1) (Or.inr rfl)).tr (mFr2.SI (A := fun a k => (a = l ∧ k = 4) ∨ a = l + 1) (Or.inl ⟨rfl, rfl⟩))
    rw [e34, show (1 : Int32) = nI 1 from rfl, pk_sub (by omega), show L + 1 - 1 = L by omega]
    refine K h3 _ ⟨f0.tr (f3.wk (fun a k z => Or.inr z)), R.lw f3, ⟨L + 1, by omega, e34⟩, fun s0 hb => ?_⟩ ⟨fun u => (by cases u), fun j hj s0 hb => ?_⟩
    · rw [List.length_append] at hb ⊢
      have hb1 : C.length + 1 ≤ 160 := hb
      have := hLC s0 (by omega)
      subst this
      refine ⟨e34, fun i hi => ?_⟩
      have hi1 : i < C.length + 1 := hi
      by_cases q : i = C.length
      · subst q
        rw [e3, mI_SI_a (by omega), e2, mI_SI_s, ev]
        unfold cv
        simp [List.getD]
      · rw [e3, mI_SI_a (by omega), e2, mI_SI_k q, (kC s0 (by omega)).2 i (by omega)]
        congr 1
        simp [List.getD, List.getElem?_append_left (show i < C.length by omega)]
    · cases hj
      have := hLC s0 (by omega)
      rw [this]
      exact ⟨rfl, by omega⟩
  · exfalso
    rw [List.length_append] at hb
    have hb1 : C.length + 1 ≤ 160 := hb
    have := hLC s0 (by omega)
    omega
  · have := hLC s0 (by omega)
    omega
theorem skX.mo {x : Int32} {i : Option Nat} {N N' : Nat} {s s' : aTs} (k : skX x i N s) (hN : N ≤ N') (hs : s'.1 = 0 → s.1 = 0) : skX x i N' s' :=
  ⟨k.1, fun j hj s0 hb => by have := k.2 j hj (hs s0) (by omega); exact ⟨this.1, by omega⟩⟩
set_option maxHeartbeats 1000000 in
theorem c4_condL {l n o : Nat} {t : Nat → Nat} {x : aTr} {pc : aTr → aTr} (hp : ∀ x : aTr, x.1.1 ≠ 0 → (pc x).1.1 ≠ 0) (hn : ∀ x : aTr, x.2.length ≤ (pc x).2.length)
    (HP : ∀ (h : mH) (Q : Option mV → mH → Prop) (b : Nat × Nat) (x : aTr), rdS h l t n x.1 → cdC h l x.1 x.2 → (∀ h', rdQ h h' l t n (pc x) → Q none h') → mC G kX4_readPiece (d + 5) b [.inr (some 27), .inl (nI o)] h Q)
    (R : rdS h l t n x.1) (k : cdC h l x.1 x.2) (K : ∀ h', rdQ h h' l t n (cdS t n pc 160 x none none true) → Q none h') : mC G kX4_readCondition (d + 6) b [.inr (some 27), .inl (nI o)] h Q := by
  have hl := R.2.1.2.1
  refine qX4_readCondition _ R.1 ?_
  have noX : ∀ N s, skX (-1) none N s := fun N s => ⟨fun _ => rfl, fun j z => (by cases z)⟩
  have lp : ∀ (f i : Nat) (h1 : mH) (y : aTr) (part piece : Option Nat) (more : Bool) (xp xq : Int32), i + f = 160 → rdQ h h1 l t n y → skX xp part y.2.length y.1 → skX xq piece y.2.length y.1 → cdS t n pc f y part piece more = cdS t n pc 160 x none none true →
      mW G kX4_readCondition (d + 6) b 10 [some (.inr (some 27)), some (.inl (nI o)), some (.inl xp), some (.inl xq), some (.inl (b2i more)), some (.inl (nI i))] [] h1 Q := by
    intro f
    induction f with
    | zero =>
      intro i h1 y part piece more xp xq hi a sp sq e
      have KK : Q none h1 := K h1 (by rw [← e]; exact a)
      exact qX4_readCondition_10 _ _ _ _ _ a.2.1.1 ⟨fun _ => KK, fun _ => ⟨fun _ => KK, fun z => absurd (nI_le (a := 160) (by omega) (by omega)) z⟩⟩
    | succ f ih =>
      intro i h1 y part piece more xp xq hi a sp sq e
      cases more with
      | false =>
        have KK : Q none h1 := K h1 (by rw [← e]; exact a)
        exact qX4_readCondition_10 _ _ _ _ _ a.2.1.1 ⟨fun _ => KK, fun z => absurd rfl z⟩
      | true =>
        rw [cd_st] at e
        have hst : (pc y).1.1 = 0 → y.1.1 = 0 := fun z => Classical.byContradiction (fun u => hp y u z)
        refine qX4_readCondition_10 _ _ _ _ _ a.2.1.1 ⟨fun z => absurd z (by decide), fun _ => ⟨fun z => absurd z (nI_ge (b := 160) (by omega) (by omega)), fun _ => ?_⟩⟩
        refine HP _ _ _ y a.2.1 a.2.2 (fun h2 a2 => ⟨rfl, a2.2.1.1, l, a2.2.1.2.1.1, law_t a2.2.1.1 hl, ?_⟩)
        have a3 : rdQ h h2 l t n ((pc y).1, (pc y).2) := a.tr a2
        refine c4_aim xq a3 (sq.mo (hn y) hst) (fun h4 a4 => ⟨rfl, a4.2.1.1, law_t a4.2.1.1 hl, ?_⟩)
        refine c4_takes (d := d + 4) (c := 38) a4.2.1 (by omega) (fun n38 => ⟨_, rfl, a4.2.1.1, law_t a4.2.1.1 hl, fun _ => ?_, fun u => absurd rfl u⟩) (fun y38 h5 f5 R5 => ⟨_, rfl, R5.1, law_t R5.1 hl, fun u => absurd u (by decide), fun _ => ?_⟩)
        · rw [if_neg n38] at e
          refine ⟨l, a4.2.1.2.1.1, law_t a4.2.1.1 hl, ?_⟩
          refine c4_aim xp a4 (by rw [aiC_l]; exact sp.mo (hn y) hst) (fun h7 a7 => ⟨rfl, a7.2.1.1, law_t a7.2.1.1 hl, law_t a7.2.1.1 hl, ?_⟩)
          refine c4_takes (d := d + 4) (c := 124) a7.2.1 (by omega) (fun n124 => ⟨_, rfl, a7.2.1.1, law_t a7.2.1.1 hl, law_t a7.2.1.1 hl, fun _ => ?_, fun u => absurd rfl u⟩) (fun y124 h5 f5 R5 => ⟨_, rfl, R5.1, law_t R5.1 hl, law_t R5.1 hl, fun u => absurd u (by decide), fun _ => ?_⟩)
          · rw [if_neg n124] at e
            rw [nI_1]
            exact ih (i + 1) h7 _ none none false _ _ (by omega) a7 (noX _ _) (noX _ _) e
          · rw [if_pos y124] at e
            refine ⟨l, R5.2.1.1, law_t R5.1 hl, ?_⟩
            have a8 : rdQ h h5 l t n (adS (pc y).1, aiC (aiC (pc y).2 piece) part) := a7.sg f5 (fun a k z => by omega) hl R5 (fun z => z)
            refine c4_addJ (o := 12) (v := 0) a8 (fun h9 x9 a9 s9 => ⟨_, rfl, a9.2.1.1, law_t a9.2.1.1 hl, law_t a9.2.1.1 hl, law_t a9.2.1.1 hl, ?_⟩)
            rw [nI_1]
            refine ih (i + 1) h9 _ _ none true _ _ (by omega) a9 ?_ (noX _ _) e
            rw [show ((adS (pc y).1, aiC (aiC (pc y).2 piece) part ++ [(12, 0)]) : aTr).2.length = (aiC (aiC (pc y).2 piece) part).length + 1 from by simp]
            exact s9
        · rw [if_pos y38] at e
          refine ⟨l, R5.2.1.1, law_t R5.1 hl, ?_⟩
          have a8 : rdQ h h5 l t n (adS (pc y).1, aiC (pc y).2 piece) := a4.sg f5 (fun a k z => by omega) hl R5 (fun z => z)
          refine c4_addJ (o := 11) (v := 0) a8 (fun h9 x9 a9 s9 => ⟨_, rfl, a9.2.1.1, law_t a9.2.1.1 hl, law_t a9.2.1.1 hl, ?_⟩)
          rw [nI_1]
          refine ih (i + 1) h9 _ part _ true _ _ (by omega) a9 ?_ ?_ e
          · refine sp.mo ?_ hst
            have := hn y
            simp [aiC_l]
            omega
          · rw [show ((adS (pc y).1, aiC (pc y).2 piece ++ [(11, 0)]) : aTr).2.length = (aiC (pc y).2 piece).length + 1 from by simp]
            exact s9
  exact lp 160 0 h x none none true (-1) (-1) (by omega) ⟨mFr2.rf, R, k⟩ (noX _ _) (noX _ _) rfl
end
