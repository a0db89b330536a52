/-! conditions (pure, then class) -/
/-- a fault stays -/
theorem fk_st {k : Nat} {s : aTs} (h : s.1 ≠ 0) : (stS k s).1 ≠ 0 := by unfold stS; rw [if_neg h]; exact h
theorem fk_ad {s : aTs} (h : s.1 ≠ 0) : (adS s).1 ≠ 0 := h
theorem fk_ex {t : Nat → Nat} {n c : Nat} {s : aTs} (h : s.1 ≠ 0) : (exS t n c s).1 ≠ 0 := by
  unfold exS
  split
  · exact fk_ad h
  · exact fk_st h
theorem fk_tk {t : Nat → Nat} {n a1 a2 a3 k : Nat} {s : aTs} (h : s.1 ≠ 0) : (tkS t n a1 a2 a3 k s).2.1 ≠ 0 := by
  unfold tkS
  split
  · exact fk_ad h
  · exact h
theorem fk_nm {t : Nat → Nat} {n : Nat} : ∀ f s v, s.1 ≠ 0 → (nmS t n f s v).1.1 ≠ 0
  | 0, s, v, h => h
  | f + 1, s, v, h => by
    unfold nmS
    split
    · exact fk_nm f _ _ (fk_ad h)
    · exact h
theorem fk_nr {t : Nat → Nat} {n : Nat} {s : aTs} (h : s.1 ≠ 0) : (nrS t n s).1.1 ≠ 0 := by
  unfold nrS
  split
  · exact fk_st (fk_nm 5 s 0 h)
  · exact fk_nm 5 s 0 h
theorem fk_fc {t : Nat → Nat} {n : Nat} {S0 : Option (aTs → aTr)} (hS : ∀ S, S0 = some S → ∀ s : aTs, s.1 ≠ 0 → (S s).1.1 ≠ 0) {s : aTs} (h : s.1 ≠ 0) : (fcS0 t n S0 s).1.1 ≠ 0 := by
  unfold fcS0
  split
  · cases S0 with
    | none => exact fk_st h
    | some S => exact fk_ex (hS S rfl _ (fk_ad h))
  · split
    · exact fk_ad h
    · split
      · exact fk_nr h
      · exact fk_st h
theorem fk_tm {t : Nat → Nat} {n : Nat} {fc : aTs → aTr} (hf : ∀ s : aTs, s.1 ≠ 0 → (fc s).1.1 ≠ 0) : ∀ f s o, s.1 ≠ 0 → (tmS t n fc f s o).1.1 ≠ 0
  | 0, s, o, h => h
  | f + 1, s, none, h => h
  | f + 1, s, some m, h => by rw [tm_s]; exact fk_tm hf f _ _ (fk_tk (hf s h))
theorem fk_sm {t : Nat → Nat} {n : Nat} {fc : aTs → aTr} (hf : ∀ s : aTs, s.1 ≠ 0 → (fc s).1.1 ≠ 0) : ∀ f s w m, s.1 ≠ 0 → (smS t n fc f s w m).1.1 ≠ 0
  | 0, s, w, m, h => h
  | f + 1, s, w, false, h => h
  | f + 1, s, w, true, h => by rw [sm_st]; exact fk_sm hf f _ _ _ (fk_tk (fk_tm hf 160 _ _ (fk_tk (hf s h))))
theorem fk_sum {t : Nat → Nat} {n : Nat} : ∀ e s, s.1 ≠ 0 → (sumS t n e s).1.1 ≠ 0
  | 0, s, h => fk_sm (fun s h => fk_fc (fun S z => by cases z) h) 160 s none true h
  | e + 1, s, h => fk_sm (fun s h => fk_fc (fun S z s h => by cases z; exact fk_sum e s h) h) 160 s none true h
/-- a skip is told where it goes -/
def aiC (C : List (Nat × Nat)) (i : Option Nat) : List (Nat × Nat) := match i with
  | none => C
  | some j => C.set j ((C.getD j (0, 0)).1, (C.getD j (0, 0)).2 + C.length)
theorem aiC_l (C : List (Nat × Nat)) (i : Option Nat) : (aiC C i).length = C.length := by
  cases i with
  | none => rfl
  | some j => exact List.length_set
/-- two sums compared -/
def cmS (t : Nat → Nat) (n : Nat) (sm : aTs → aTr) (x : aTr) : aTr :=
  let r := sm x.1
  let k := tkS t n 60 62 61 7 r.1
  let r2 := sm (if k.1.isSome then k.2 else stS 1 k.2)
  (r2.1, x.2 ++ r.2 ++ r2.2 ++ wtL k.1)
/-- a condition; pc: how a piece is read -/
def cdS (t : Nat → Nat) (n : Nat) (pc : aTr → aTr) : Nat → aTr → Option Nat → Option Nat → Bool → aTr
  | 0, x, _, _, _ => x
  | _ + 1, x, _, _, false => x
  | f + 1, x, part, piece, true =>
    let r := pc x
    let C1 := aiC r.2 piece
    if sgS t n r.1 = 38 then cdS t n pc f (adS r.1, C1 ++ [(11, 0)]) part (some C1.length) true
    else
      let C2 := aiC C1 part
      if sgS t n r.1 = 124 then cdS t n pc f (adS r.1, C2 ++ [(12, 0)]) (some C2.length) none true
      else cdS t n pc f (r.1, C2) none none false
/-- a piece with e more brackets allowed -/
def pcS (t : Nat → Nat) (n : Nat) : Nat → aTr → aTr
  | 0, x => if sgS t n x.1 = 33 then (stS 5 x.1, x.2) else if sgS t n x.1 = 40 then (stS 5 x.1, x.2) else cmS t n (sumS t n 0) x
  | e + 1, x =>
    if sgS t n x.1 = 33 then ((pcS t n e (adS x.1, x.2)).1, (pcS t n e (adS x.1, x.2)).2 ++ [(10, 0)])
    else if sgS t n x.1 = 40 then (exS t n 41 (cdS t n (pcS t n e) 160 (adS x.1, x.2) none none true).1, (cdS t n (pcS t n e) 160 (adS x.1, x.2) none none true).2)
    else cmS t n (sumS t n (e + 1)) x
theorem cd_st {t : Nat → Nat} {n f : Nat} {pc : aTr → aTr} {x : aTr} {part piece : Option Nat} : cdS t n pc (f + 1) x part piece true = if sgS t n (pc x).1 = 38 then cdS t n pc f (adS (pc x).1, aiC (pc x).2 piece ++ [(11, 0)]) part (some (aiC (pc x).2 piece).length) true else if sgS t n (pc x).1 = 124 then cdS t n pc f (adS (pc x).1, aiC (aiC (pc x).2 piece) part ++ [(12, 0)]) (some (aiC (aiC (pc x).2 piece) part).length) none true else cdS t n pc f ((pc x).1, aiC (aiC (pc x).2 piece) part) none none false := rfl
theorem fk_cm {t : Nat → Nat} {n e : Nat} {x : aTr} (h : x.1.1 ≠ 0) : (cmS t n (sumS t n e) x).1.1 ≠ 0 := by
  show (sumS t n e (if _ then _ else stS 1 _)).1.1 ≠ 0
  apply fk_sum
  split
  · exact fk_tk (fk_sum e _ h)
  · exact fk_st (fk_tk (fk_sum e _ h))
theorem fk_cd {t : Nat → Nat} {n : Nat} {pc : aTr → aTr} (hp : ∀ x : aTr, x.1.1 ≠ 0 → (pc x).1.1 ≠ 0) : ∀ f x a c m, x.1.1 ≠ 0 → (cdS t n pc f x a c m).1.1 ≠ 0
  | 0, x, a, c, m, h => h
  | f + 1, x, a, c, false, h => h
  | f + 1, x, a, c, true, h => by
    rw [cd_st]
    have := hp x h
    split
    · exact fk_cd hp f _ _ _ _ (fk_ad this)
    · split
      · exact fk_cd hp f _ _ _ _ (fk_ad this)
      · exact fk_cd hp f _ _ _ _ this
theorem fk_pc {t : Nat → Nat} {n : Nat} : ∀ e x, x.1.1 ≠ 0 → (pcS t n e x).1.1 ≠ 0
  | 0, x, h => by
    unfold pcS
    split
    · exact fk_st h
    · split
      · exact fk_st h
      · exact fk_cm h
  | e + 1, x, h => by
    unfold pcS
    split
    · exact fk_pc e _ (fk_ad h)
    · split
      · exact fk_ex (fk_cd (fun x h => fk_pc e x h) 160 _ _ _ _ (fk_ad h))
      · exact fk_cm h
/-! class -/
/-- the orders of the law are C, if nothing was wrong so far -/
def cdC (h : mH) (l : Nat) (s : aTs) (C : List (Nat × Nat)) : Prop := rdL h l ∧ (s.1 = 0 → C.length ≤ 160 → mI h l 4 = nI C.length ∧ ∀ i, i < C.length → mI h (l + 1) i = cv (C.getD i (0, 0)))
def rdQ (h h' : mH) (l : Nat) (t : Nat → Nat) (n : Nat) (r : aTr) : Prop := mFr2 (aRd l) h h' ∧ rdS h' l t n r.1 ∧ cdC h' l r.1 r.2
theorem cdC.ap {h h' : mH} {l : Nat} {s s' : aTs} {C c : List (Nat × Nat)} (k : cdC h l s C) (a : apC h h' l c) (hs : s'.1 = 0 → s.1 = 0) : cdC h' l s' (C ++ c) := by
  refine ⟨a.L k.1, fun z hb => ?_⟩
  rw [List.length_append] at hb ⊢
  obtain ⟨k1, k2⟩ := k.2 (hs z) (by omega)
  obtain ⟨-, p⟩ := a C.length (by omega) k1
  obtain ⟨p1, p2, p3⟩ := p (by omega)
  refine ⟨p1, fun i hi => ?_⟩
  by_cases q : i < C.length
  · rw [p2 i q, k2 i q]
    congr 1
    simp [List.getD, List.getElem?_append_left q]
  · have := p3 (i - C.length) (by omega)
    rw [show C.length + (i - C.length) = i by omega] at this
    rw [this]
    congr 1
    simp [List.getD, List.getElem?_append_right (Nat.le_of_not_lt q)]
theorem rdQ.ap {h h1 h2 : mH} {l n : Nat} {t : Nat → Nat} {r : aTr} {s : aTs} {c : List (Nat × Nat)} (a : rdQ h h1 l t n r) (a2 : rdR h1 h2 l t n (s, c)) (hs : s.1 = 0 → r.1.1 = 0) : rdQ h h2 l t n (s, r.2 ++ c) := ⟨a.1.tr a2.1, a2.2.1, a.2.2.ap a2.2.2 hs⟩
theorem rdQ.sg {A : Nat → Nat → Prop} {h h1 h2 : mH} {l n : Nat} {t : Nat → Nat} {s s' : aTs} {C : List (Nat × Nat)} (a : rdQ h h1 l t n (s, C)) (f : mFr2 A h1 h2) (hA : ∀ a k, A a k → a = 27 ∧ (k = 3 ∨ k = 4)) (hl : l = 16 ∨ l = 21) (R : rdS h2 l t n s') (hs : s'.1 = 0 → s.1 = 0) : rdQ h h2 l t n (s', C) := by
  have := a.ap (rdR.sg f hA hl R) hs
  rw [show (s, C).2 ++ [] = C from List.append_nil C] at this
  exact this
theorem rdQ.tr {h h1 h2 : mH} {l n : Nat} {t : Nat → Nat} {r r2 : aTr} (a : rdQ h h1 l t n r) (a2 : rdQ h1 h2 l t n r2) : rdQ h h2 l t n r2 := ⟨a.1.tr a2.1, a2.2⟩
/-- what x says of a skip -/
def skX (x : Int32) (i : Option Nat) (N : Nat) (s : aTs) : Prop := (i = none → x = -1) ∧ ∀ j, i = some j → s.1 = 0 → N ≤ 160 → x = nI j ∧ j < N
section
variable {G : mG} {d : Nat} {b : Nat × Nat} {h : mH} {Q : Option mV → mH → Prop}
/-- any order is put -/
theorem c3_addX {l : Nat} (v1 v2 : Int32) (hS : mSk h) (hl : l = 16 ∨ l = 21) (k : rdL h l) (K : ∀ h' x, mFr2 (fun a k => (a = l ∧ k = 4) ∨ a = l + 1) h h' → rdL h' l → Q (some (.inl x)) h') : mC G kX3_add d b [.inr (some l), .inl v1, .inl v2] h Q := by
  obtain ⟨L, hL, eL⟩ := k
  refine qX3_add l _ _ (law_t hS hl) hS ?_
  rw [eL, nI_ltI (by omega) (by omega), nI_clamp (show L < 2 ^ 31 by omega)]
  refine ⟨fun z => ⟨vp_in_nI z (by omega), fun h2 e2 h3 e3 => ?_⟩, fun z => K h _ mFr2.rf ⟨L, hL, eL⟩⟩
  have e24 : mI h2 l 4 = nI L := by rw [e2, mI_SI_a (by omega)]; exact eL
  rw [e24, nI_1] at e3
  refine K h3 _ ?_ ⟨L + 1, by omega, by rw [e3, mI_SI_s]⟩
  rw [e3, e2]
  exact (mFr2.SI (A := fun a k => (a = l ∧ k = 4) ∨ a = l + 1) (Or.inr rfl)).tr (mFr2.SI (A := fun a k => (a = l ∧ k = 4) ∨ a = l + 1) (Or.inl ⟨rfl, rfl⟩))
/-- a frame of the law's orders leaves the reader -/
theorem rdS.lw {l n : Nat} {t : Nat → Nat} {s : aTs} {h' : mH} (f : mFr2 (fun a k => (a = l ∧ k = 4) ∨ a = l + 1) h h') (R : rdS h l t n s) : rdS h' l t n s := by
  obtain ⟨hS, B, e4, s4, e3, s3⟩ := R
  have hl := B.2.1
  exact ⟨f.1.sk hS, B.fr f (by omega) (fun k => by omega), by rw [f.2 _ _ (by omega)]; exact e4, s4, by rw [f.2 _ _ (by omega)]; exact e3, s3⟩
theorem c4_aim {l n : Nat} {t : Nat → Nat} {h0 : mH} {s : aTs} {C : List (Nat × Nat)} {i : Option Nat} (x : Int32) (a : rdQ h0 h l t n (s, C)) (sk : skX x i C.length s) (K : ∀ h', rdQ h0 h' l t n (s, aiC C i) → Q none h') : mC G kX3_aimHere d b [.inr (some l), .inl x] h Q := by
  obtain ⟨f0, R, kL, kC⟩ := a
  have hl := R.2.1.2.1
  obtain ⟨L, hL, eL⟩ := kL
  refine qX3_aimHere l _ (law_t R.1 hl) R.1 ?_
  rw [eL]
  have same : (s.1 = 0 → C.length ≤ 160 → i = none) → Q none h := fun z => K h ⟨f0, R, ⟨L, hL, eL⟩, fun s0 hb => by
    rw [aiC_l] at hb ⊢
    have := z s0 hb
    subst this
    exact kC s0 hb⟩
  have ni : ∀ j, i = some j → s.1 = 0 → C.length ≤ 160 → L = C.length := fun j _ s0 hb => by
    have := (kC s0 hb).1
    rw [eL] at this
    exact nI_bk (by omega) (by omega) this
  refine ⟨fun z => same (fun s0 hb => ?_), fun z => ⟨fun u => same (fun s0 hb => ?_), fun u => ?_⟩⟩
  · cases hi : i with
    | none => rfl
    | some j =>
      obtain ⟨e, hj⟩ := sk.2 j hi s0 hb
      rw [e, Int32.lt_iff_toInt_lt, nI_toI (by omega)] at z
      have : (0 : Int32).toInt = 0 := rfl
      omega
  · cases hi : i with
    | none => rfl
    | some j =>
      obtain ⟨e, hj⟩ := sk.2 j hi s0 hb
      have := ni j hi s0 hb
      rw [e, nI_leI (by omega) (by omega)] at u
      omega
  · obtain ⟨j, hj, ej⟩ : ∃ j, j < L ∧ x = nI j := by
      have z' : 0 ≤ x.toInt := by
        rw [Int32.lt_iff_toInt_lt] at z
        have : (0 : Int32).toInt = 0 := rfl
        omega
      have u' : x.toInt < L := by
        rw [Int32.le_iff_toInt_le, nI_toI (by omega)] at u
        omega
      exact nI_ex z' u' (by omega)
    rw [ej, nI_clamp (show j < 2 ^ 31 by omega)]
    refine ⟨vp_in_nI (by omega) (by omega), vp_in_nI (by omega) (by omega), fun h3 e3 => ?_⟩
    have f3 : mFr2 (fun a k => (a = l ∧ k = 4) ∨ a = l + 1) h h3 := by rw [e3]; exact mFr2.SI (Or.inr rfl)
    refine K h3 ⟨f0.tr (f3.wk (fun a k z => Or.inr z)), R.lw f3, ⟨L, hL, by rw [e3, mI_SI_a (by omega)]; exact eL⟩, fun s0 hb => ?_⟩
    rw [aiC_l] at hb ⊢
    obtain ⟨k1, k2⟩ := kC s0 hb
    rw [eL] at k1
    have eLC : L = C.length := nI_bk (by omega) (by omega) k1
    cases hi : i with
    | none =>
      have := sk.1 hi
      rw [ej] at this
      exact (nI_nmb (by omega) this).elim
    | some j' =>
      obtain ⟨e, hj'⟩ := sk.2 j' hi s0 hb
      rw [ej] at e
      have : j = j' := nI_bk (by omega) (by omega) e
      subst this
      refine ⟨by rw [e3, mI_SI_a (by omega), eL, eLC], fun q hq => ?_⟩
      rw [e3]
      by_cases z : q = j
      · subst z
        rw [mI_SI_s, k2 q hq, show (16 : Int32) = nI 16 from rfl, pk_mul, eLC]
        unfold cv
        rw [nI_add]
        have e1 : (aiC C (some q)).getD q (0, 0) = ((C.getD q (0, 0)).1, (C.getD q (0, 0)).2 + C.length) := by
          unfold aiC
          simp [List.getD, hq]
        rw [e1]
        show nI (16 * (C.getD q (0, 0)).2 + cO (C.getD q (0, 0)).1 + C.length * 16) = nI (16 * ((C.getD q (0, 0)).2 + C.length) + cO (C.getD q (0, 0)).1)
        congr 1
        omega
      · rw [mI_SI_k z, k2 q hq]
        congr 1
        unfold aiC
        simp [List.getD, List.getElem?_set_ne (Ne.symm z)]
end
