/-! the text of a law: signs, numbers, sums (pure, as the class reads them) -/
abbrev aTs : Type := Nat × Nat
abbrev aTr : Type := aTs × List (Nat × Nat)
/-- the sign that comes (999: none); s = (fault, place) -/
def sgS (t : Nat → Nat) (n : Nat) (s : aTs) : Nat := if s.1 = 0 then (if s.2 < n then t s.2 else 999) else 999
def stS (k : Nat) (s : aTs) : aTs := if s.1 = 0 then (k, s.2) else s
def adS (s : aTs) : aTs := (s.1, s.2 + 1)
def exS (t : Nat → Nat) (n c : Nat) (s : aTs) : aTs := if sgS t n s = c then adS s else stS 1 s
def leT (c : Nat) : Nat := if c = 98 then 0 else if c = 107 then 1 else if c = 115 then 2 else if c = 104 then 3 else if c = 113 then 4 else if c = 100 then 5 else if c = 117 then 6 else if c = 114 then 7 else if c = 110 then 8 else 9
def isDg (c : Nat) : Bool := decide (48 ≤ c ∧ c ≤ 57)
def toO (c a1 a2 a3 k : Nat) : Option Nat := if c = a1 then some k else if c = a2 then some (k + 1) else if c = a3 then some (k + 2) else none
/-- takes one of three signs -/
def tkS (t : Nat → Nat) (n a1 a2 a3 k : Nat) (s : aTs) : Option Nat × aTs := (toO (sgS t n s) a1 a2 a3 k, if (toO (sgS t n s) a1 a2 a3 k).isSome then adS s else s)
/-- up to so many digits -/
def nmS (t : Nat → Nat) (n : Nat) : Nat → aTs → Nat → aTs × Nat
  | 0, s, v => (s, v)
  | f + 1, s, v => if isDg (sgS t n s) then nmS t n f (adS s) (10 * v + (sgS t n s - 48)) else (s, v)
def nrS (t : Nat → Nat) (n : Nat) (s : aTs) : aTr := (if isDg (sgS t n (nmS t n 5 s 0).1) then stS 2 (nmS t n 5 s 0).1 else (nmS t n 5 s 0).1, [(0, (nmS t n 5 s 0).2)])
/-- a factor; R: how a sum in brackets is read, none: too deep -/
def fcS0 (t : Nat → Nat) (n : Nat) (R : Option (aTs → aTr)) (s : aTs) : aTr :=
  if sgS t n s = 91 then (match R with
    | none => (stS 5 s, [])
    | some S => (exS t n 93 (S (adS s)).1, (S (adS s)).2))
  else if leT (sgS t n s) < 9 then (adS s, [(1, leT (sgS t n s))])
  else if isDg (sgS t n s) then nrS t n s else (stS 1 s, [])
/-- behind a factor: times, over, rest -/
def tmS (t : Nat → Nat) (n : Nat) (fc : aTs → aTr) : Nat → aTs → Option Nat → aTr
  | 0, s, _ => (s, [])
  | _ + 1, s, none => (s, [])
  | f + 1, s, some m =>
    let r := fc s
    let k := tkS t n 42 47 37 4 r.1
    let q := tmS t n fc f k.2 k.1
    (q.1, r.2 ++ ((m, 0) :: q.2))
def wtL (w : Option Nat) : List (Nat × Nat) := match w with
  | none => []
  | some m => [(m, 0)]
def smS (t : Nat → Nat) (n : Nat) (fc : aTs → aTr) : Nat → aTs → Option Nat → Bool → aTr
  | 0, s, _, _ => (s, [])
  | _ + 1, s, _, false => (s, [])
  | f + 1, s, w, true =>
    let r := fc s
    let k := tkS t n 42 47 37 4 r.1
    let q := tmS t n fc 160 k.2 k.1
    let k2 := tkS t n 43 45 45 2 q.1
    let z := smS t n fc f k2.2 k2.1 k2.1.isSome
    (z.1, r.2 ++ q.2 ++ wtL w ++ z.2)
/-- a sum with e more brackets allowed -/
def sumS (t : Nat → Nat) (n : Nat) : Nat → aTs → aTr
  | 0, s => smS t n (fcS0 t n none) 160 s none true
  | e + 1, s => smS t n (fcS0 t n (some (sumS t n e))) 160 s none true
def facS (t : Nat → Nat) (n : Nat) : Nat → aTs → aTr
  | 0 => fcS0 t n none
  | e + 1 => fcS0 t n (some (sumS t n e))
theorem sumS_eq (t : Nat → Nat) (n : Nat) : ∀ e s, sumS t n e s = smS t n (facS t n e) 160 s none true
  | 0, _ => rfl
  | _ + 1, _ => rfl
/-! the class's reader -/
def sgI (c : Nat) : Int32 := if c = 999 then -1 else nI c
theorem let_f : ∀ c, c < 256 → f_letters (((nI c).toUInt32 % 65536).toInt32) = if leT c < 9 then nI (leT c) else -1 := by decide +kernel
theorem sg_b {t : Nat → Nat} {n : Nat} {s : aTs} (ht : ∀ j, j < n → t j < 256) : sgS t n s < 256 ∨ sgS t n s = 999 := by
  unfold sgS
  by_cases h1 : s.1 = 0
  · rw [if_pos h1]
    by_cases h2 : s.2 < n
    · rw [if_pos h2]; exact Or.inl (ht _ h2)
    · rw [if_neg h2]; exact Or.inr rfl
  · rw [if_neg h1]; exact Or.inr rfl
theorem sg_lt {t : Nat → Nat} {n : Nat} {s : aTs} (h : sgS t n s ≠ 999) : s.1 = 0 ∧ s.2 < n := by
  unfold sgS at h
  by_cases h1 : s.1 = 0
  · rw [if_pos h1] at h
    by_cases h2 : s.2 < n
    · exact ⟨h1, h2⟩
    · rw [if_neg h2] at h; exact (h rfl).elim
  · rw [if_neg h1] at h; exact (h rfl).elim
theorem sgI_eq {c k : Nat} (hc : c < 256 ∨ c = 999) (hk : k < 256) : sgI c = nI k ↔ c = k := by
  unfold sgI
  by_cases h : c = 999
  · rw [if_pos h]
    exact ⟨fun z => absurd z.symm (nI_nmb (by omega)), fun z => by omega⟩
  · rw [if_neg h]
    exact nI_eq (by omega) (by omega)
theorem sgI_m1 {c : Nat} (hc : c < 256 ∨ c = 999) : sgI c = -1 ↔ c = 999 := by
  unfold sgI
  by_cases h : c = 999
  · rw [if_pos h]; exact ⟨fun _ => h, fun _ => rfl⟩
  · rw [if_neg h]; exact ⟨fun z => absurd z (nI_nmb (by omega)), fun z => (h z).elim⟩
theorem dg_w : ∀ c, c < 256 → (f_X11_within (nI c) 48 57 = 0 ↔ isDg c = false) := by decide +kernel
theorem sgI_dg {c : Nat} (hc : c < 256 ∨ c = 999) : f_X11_within (sgI c) 48 57 = 0 ↔ isDg c = false := by
  rcases hc with h | h
  · unfold sgI; rw [if_neg (by omega)]; exact dg_w c h
  · subst h; decide
def rdB (h : mH) (l : Nat) (t : Nat → Nat) (n : Nat) : Prop := mR h 27 1 = some l ∧ (l = 16 ∨ l = 21) ∧ mI h 27 2 = nI n ∧ n ≤ 160 ∧ ∀ j, j < n → t j < 256 ∧ mI h 93 j = nI (t j)
/-- the reader stands at s -/
def rdS (h : mH) (l : Nat) (t : Nat → Nat) (n : Nat) (s : aTs) : Prop := mSk h ∧ rdB h l t n ∧ mI h 27 4 = nI s.1 ∧ s.1 < 10 ∧ mI h 27 3 = nI s.2 ∧ s.2 ≤ n
/-- what reading may change -/
def aRd (l : Nat) : Nat → Nat → Prop := fun a k => (a = 27 ∧ (k = 3 ∨ k = 4)) ∨ (a = l ∧ k = 4) ∨ a = l + 1
theorem rdB.fr {A : Nat → Nat → Prop} {h h' : mH} {l n : Nat} {t : Nat → Nat} (f : mFr2 A h h') (h2 : ¬ A 27 2) (h3 : ∀ k, ¬ A 93 k) (B : rdB h l t n) : rdB h' l t n := by
  obtain ⟨b1, b2, b3, b4, b5⟩ := B
  exact ⟨by rw [f.1.2.2.2]; exact b1, b2, by rw [f.2 _ _ h2]; exact b3, b4, fun j hj => ⟨(b5 j hj).1, by rw [f.2 _ _ (h3 j)]; exact (b5 j hj).2⟩⟩
/-- codes are put behind those there -/
def cv (c : Nat × Nat) : Int32 := nI (16 * c.2 + cO c.1)
def apC (h h' : mH) (l : Nat) (c : List (Nat × Nat)) : Prop := ∀ L, L ≤ 160 → mI h l 4 = nI L → (∃ L', L' ≤ 160 ∧ mI h' l 4 = nI L') ∧ (L + c.length ≤ 160 → mI h' l 4 = nI (L + c.length) ∧ (∀ i, i < L → mI h' (l + 1) i = mI h (l + 1) i) ∧ ∀ i, i < c.length → mI h' (l + 1) (L + i) = cv (c.getD i (0, 0)))
theorem apC.nil {A : Nat → Nat → Prop} {h h' : mH} {l : Nat} (f : mFr2 A h h') (h1 : ¬ A l 4) (h2 : ∀ k, ¬ A (l + 1) k) : apC h h' l [] := by
  intro L hL e
  rw [f.2 _ _ h1]
  exact ⟨⟨L, hL, e⟩, fun _ => ⟨e, fun i _ => f.2 _ _ (h2 i), fun i z => absurd z (by simp)⟩⟩
theorem apC.rf {h : mH} {l : Nat} : apC h h l [] := fun L hL e => ⟨⟨L, hL, e⟩, fun _ => ⟨e, fun _ _ => rfl, fun i z => absurd z (by simp)⟩⟩
theorem apC.tr {h h1 h2 : mH} {l : Nat} {c1 c2 : List (Nat × Nat)} (a1 : apC h h1 l c1) (a2 : apC h1 h2 l c2) : apC h h2 l (c1 ++ c2) := by
  intro L hL e
  obtain ⟨⟨L1, hL1, e1⟩, p1⟩ := a1 L hL e
  refine ⟨(a2 L1 hL1 e1).1, fun hb => ?_⟩
  rw [List.length_append] at hb ⊢
  obtain ⟨q1, q2, q3⟩ := p1 (by omega)
  obtain ⟨r1, r2, r3⟩ := (a2 (L + c1.length) (by omega) q1).2 (by omega)
  refine ⟨by rw [r1, Nat.add_assoc], fun i hi => by rw [r2 i (by omega), q2 i hi], fun i hi => ?_⟩
  by_cases z : i < c1.length
  · rw [r2 _ (by omega), q3 i z]
    congr 1
    simp [List.getD, List.getElem?_append_left z]
  · have := r3 (i - c1.length) (by omega)
    rw [show L + c1.length + (i - c1.length) = L + i by omega] at this
    rw [this]
    congr 1
    simp [List.getD, List.getElem?_append_right (Nat.le_of_not_lt z)]
section
variable {G : mG} {d : Nat} {b : Nat × Nat} {h : mH} {Q : Option mV → mH → Prop}
theorem c4_sign {l n : Nat} {t : Nat → Nat} {s : aTs} (R : rdS h l t n s) (K : Q (some (.inl (sgI (sgS t n s)))) h) : mC G kX4_sign d b [.inr (some 27)] h Q := by
  obtain ⟨hS, B, e4, s4, e3, s3⟩ := R
  have hn := B.2.2.2.1
  refine qX4_sign hS ?_
  rw [e4, e3, B.2.2.1, nI_leI (by omega) (by omega), nI_clamp (show s.2 < 2 ^ 31 by omega)]
  unfold sgS at K
  have z0 : nI s.1 = 0 ↔ s.1 = 0 := nI_eq (b := 0) (by omega) (by omega)
  rw [z0]
  refine ⟨fun z => ?_, fun z => ⟨fun u => ?_, fun _ => ⟨fun u => ?_, fun u => ⟨vp_in_nI (by omega) (by omega), ?_⟩⟩⟩⟩
  · rw [if_neg z] at K; exact K
  · exfalso
    rw [Int32.lt_iff_toInt_lt, nI_toI (by omega)] at u
    have : (0 : Int32).toInt = 0 := rfl
    omega
  · rw [if_pos z, if_neg (by omega)] at K; exact K
  · rw [if_pos z, if_pos (by omega)] at K
    have := B.2.2.2.2 s.2 (by omega)
    rw [this.2]
    unfold sgI at K
    rw [if_neg (by omega)] at K
    exact K
theorem c4_stop {l n k : Nat} {t : Nat → Nat} {s : aTs} (R : rdS h l t n s) (hk : k < 10) (hk0 : 0 < k) (K : ∀ h', mFr2 (fun a k => a = 27 ∧ k = 4) h h' → rdS h' l t n (stS k s) → Q none h') : mC G kX4_stop d b [.inr (some 27), .inl (nI k)] h Q := by
  have R0 := R
  obtain ⟨hS, B, e4, s4, e3, s3⟩ := R
  have z0 : nI s.1 = 0 ↔ s.1 = 0 := nI_eq (b := 0) (by omega) (by omega)
  refine qX4_stop _ hS ?_
  rw [e4, z0]
  unfold stS at K
  refine ⟨fun z => ?_, fun z h1 e1 => ?_⟩
  · rw [if_neg z] at K
    exact K h mFr2.rf R0
  · rw [if_pos z] at K
    subst e1
    have f : mFr2 (fun a k => a = 27 ∧ k = 4) h (mSI h 27 4 (nI k)) := mFr2.SI ⟨rfl, rfl⟩
    refine K _ f ⟨f.1.sk hS, B.fr f (by omega) (fun k => by omega), mI_SI_s, hk, ?_, s3⟩
    rw [mI_SI_k (by omega)]; exact e3
/-- one place on -/
theorem rdS.ad {l n : Nat} {t : Nat → Nat} {s : aTs} (R : rdS h l t n s) (hs : sgS t n s ≠ 999) : mFr2 (fun a k => a = 27 ∧ k = 3) h (mSI h 27 3 (mI h 27 3 + 1)) ∧ rdS (mSI h 27 3 (mI h 27 3 + 1)) l t n (adS s) := by
  obtain ⟨hS, B, e4, s4, e3, s3⟩ := R
  have f : mFr2 (fun a k => a = 27 ∧ k = 3) h (mSI h 27 3 (mI h 27 3 + 1)) := mFr2.SI ⟨rfl, rfl⟩
  have hn := B.2.2.2.1
  refine ⟨f, f.1.sk hS, B.fr f (by omega) (fun k => by omega), ?_, s4, ?_, (sg_lt hs).2⟩
  · rw [mI_SI_k (by omega)]; exact e4
  · rw [mI_SI_s, e3, nI_1]; rfl
theorem c4_takes {l n c : Nat} {t : Nat → Nat} {s : aTs} (R : rdS h l t n s) (hc : c < 256) (K1 : sgS t n s ≠ c → Q (some (.inl 0)) h) (K2 : sgS t n s = c → ∀ h', mFr2 (fun a k => a = 27 ∧ k = 3) h h' → rdS h' l t n (adS s) → Q (some (.inl 1)) h') : mC G kX4_takes (d + 1) b [.inr (some 27), .inl (nI c)] h Q := by
  have hb := sg_b (s := s) (fun j hj => (R.2.1.2.2.2.2 j hj).1)
  refine qX4_takes _ R.1 (c4_sign R ⟨_, rfl, R.1, fun w3 e3 => ?_⟩)
  have eq := sgI_eq hb hc
  by_cases z : sgS t n s = c
  · rw [if_neg (show ¬ ¬ sgI (sgS t n s) = nI c from fun u => u (eq.mpr z))] at e3
    obtain ⟨f, R'⟩ := R.ad (by omega)
    refine ⟨fun u => absurd u (by rw [e3]; decide), fun _ h4 e4 => ?_⟩
    subst e4
    rw [e3]
    exact K2 z _ f R'
  · rw [if_pos (show ¬ sgI (sgS t n s) = nI c from fun u => z (eq.mp u))] at e3
    rw [e3]
    exact ⟨fun _ => K1 z, fun u => absurd rfl u⟩
def oI2 (o : Option Nat) : Int32 := match o with
  | none => -1
  | some m => nI m
theorem c4_takesOneOf {l n a1 a2 a3 k : Nat} {t : Nat → Nat} {s : aTs} (R : rdS h l t n s) (h1 : a1 < 256) (h2 : a2 < 256) (h3 : a3 < 256) (K : ∀ h', mFr2 (fun a k => a = 27 ∧ k = 3) h h' → rdS h' l t n (tkS t n a1 a2 a3 k s).2 → Q (some (.inl (oI2 (tkS t n a1 a2 a3 k s).1))) h') : mC G kX4_takesOneOf (d + 2) b [.inr (some 27), .inl (nI a1), .inl (nI a2), .inl (nI a3), .inl (nI k)] h Q := by
  have l1 : ¬ (1 : Int32) = 0 := by decide
  unfold tkS toO at K
  refine qX4_takesOneOf _ _ _ _ R.1 (c4_takes R h1 (fun z1 => ⟨_, rfl, R.1, fun _ => ?_, fun u => absurd rfl u⟩) (fun z1 h' f R' => ⟨_, rfl, R'.1, fun u => absurd u l1, fun _ => ?_⟩))
  · rw [if_neg z1] at K
    refine c4_takes R h2 (fun z2 => ⟨_, rfl, R.1, fun _ => ?_, fun u => absurd rfl u⟩) (fun z2 h' f R' => ⟨_, rfl, R'.1, fun u => absurd u l1, fun _ => ?_⟩)
    · rw [if_neg z2] at K
      refine c4_takes R h3 (fun z3 => ⟨_, rfl, R.1, fun w7 e7 => ?_⟩) (fun z3 h' f R' => ⟨_, rfl, R'.1, fun w7 e7 => ?_⟩)
      · rw [if_neg z3] at K
        rw [e7, if_pos rfl]
        exact K h mFr2.rf R
      · rw [if_pos z3] at K
        rw [e7, if_neg l1, show (2 : Int32) = nI 2 from rfl, nI_add]
        exact K h' f R'
    · rw [if_pos z2] at K
      rw [show (1 : Int32) = nI 1 from rfl, nI_add]
      exact K h' f R'
  · rw [if_pos z1] at K
    exact K h' f R'
theorem c4_expect {l n c : Nat} {t : Nat → Nat} {s : aTs} (R : rdS h l t n s) (hc : c < 256) (K : ∀ h', mFr2 (fun a k => a = 27 ∧ (k = 3 ∨ k = 4)) h h' → rdS h' l t n (exS t n c s) → Q none h') : mC G kX4_expect (d + 1) b [.inr (some 27), .inl (nI c)] h Q := by
  have hb := sg_b (s := s) (fun j hj => (R.2.1.2.2.2.2 j hj).1)
  refine qX4_expect _ R.1 (c4_sign R ⟨_, rfl, R.1, fun z => ?_, fun z h4 e4 => ?_⟩)
  · rw [sgI_eq hb hc] at z
    unfold exS at K
    rw [if_neg z] at K
    exact c4_stop (k := 1) R (by omega) (by omega) (fun h' f R' => ⟨rfl, R'.1, K h' (f.wk (fun a k z => ⟨z.1, Or.inr z.2⟩)) R'⟩)
  · rw [sgI_eq hb hc] at z
    unfold exS at K
    rw [if_pos z] at K
    obtain ⟨f, R'⟩ := R.ad (by omega)
    subst e4
    exact K _ (f.wk (fun a k z => ⟨z.1, Or.inl z.2⟩)) R'
theorem c3_add {l o v : Nat} (hS : mSk h) (hl : l = 16 ∨ l = 21) (tl : mT h l = 4) (L : Nat) (hL : L ≤ 160) (eL : mI h l 4 = nI L) (K : ∀ h' x, mFr2 (fun a k => (a = l ∧ k = 4) ∨ a = l + 1) h h' → apC h h' l [(o, v)] → (L < 160 → x = nI L) → Q (some (.inl x)) h') (ho : cO o = o) : mC G kX3_add d b [.inr (some l), .inl (nI o), .inl (nI v)] h Q := by
  refine qX3_add l _ _ tl hS ?_
  rw [eL, nI_ltI (by omega) (by omega), nI_clamp (show L < 2 ^ 31 by omega)]
  refine ⟨fun z => ⟨vp_in_nI z (by omega), fun h2 e2 h3 e3 => ?_⟩, fun z => K h _ mFr2.rf (fun L1 hL1 e1 => ⟨⟨L, hL, eL⟩, fun u => ?_⟩) (fun u => (z u).elim)⟩
  · have ev : nI v * 16 + nI o = nI (16 * v + o) := by rw [show (16 : Int32) = nI 16 from rfl, pk_mul, nI_add, Nat.mul_comm]
    have e24 : mI h2 l 4 = nI L := by rw [e2, mI_SI_a (by omega)]; exact eL
    rw [e24, nI_1] at e3
    have e34 : mI h3 l 4 = nI (L + 1) := by rw [e3, mI_SI_s]
    rw [e34, show (1 : Int32) = nI 1 from rfl, pk_sub (by omega), show L + 1 - 1 = L by omega]
    refine K h3 _ ?_ (fun L1 hL1 e1 => ?_) (fun _ => rfl)
    · rw [e3, e2]
      exact (mFr2.SI (A := fun a k => (a = l ∧ k = 4) ∨ a = l + 1) (Or.inr rfl)).tr (mFr2.SI (A := fun a k => (a = l ∧ k = 4) ∨ a = l + 1) (Or.inl ⟨rfl, rfl⟩))
    · rw [eL] at e1
      have : L = L1 := nI_bk (by omega) (by omega) e1
      subst this
      refine ⟨⟨L + 1, by omega, e34⟩, fun _ => ⟨e34, fun i hi => ?_, fun i hi => ?_⟩⟩
      · rw [e3, mI_SI_a (by omega), e2, mI_SI_k (by omega)]
      · have : i = 0 := by simp at hi; omega
        subst this
        rw [e3, mI_SI_a (by omega), e2, ev]
        show mI (mSI h (l + 1) L (nI (16 * v + o))) (l + 1) L = nI (16 * v + cO o)
        rw [mI_SI_s, ho]
  · rw [eL] at e1
    have : L = L1 := nI_bk (by omega) (by omega) e1
    simp at u
    omega
end
