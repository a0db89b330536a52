/-! sums: the model's reader goes the class's way (pure) -/
theorem tk_n {t : Nat → Nat} {n a1 a2 a3 k : Nat} {s : aTs} (h : toO (sgS t n s) a1 a2 a3 k = none) : tkS t n a1 a2 a3 k s = (none, s) := by
  unfold tkS; rw [h]; rfl
theorem tk_y {t : Nat → Nat} {n a1 a2 a3 k m : Nat} {s : aTs} (h : toO (sgS t n s) a1 a2 a3 k = some m) : tkS t n a1 a2 a3 k s = (some m, adS s) := by
  unfold tkS; rw [h]; rfl
theorem sg_f {t : Nat → Nat} {n : Nat} {s : aTs} (h : s.1 ≠ 0) : sgS t n s = 999 := by
  unfold sgS; rw [if_neg h]
theorem toO_9 {a1 a2 a3 k : Nat} (h1 : a1 < 256) (h2 : a2 < 256) (h3 : a3 < 256) : toO 999 a1 a2 a3 k = none := by
  unfold toO; rw [if_neg (by omega), if_neg (by omega), if_neg (by omega)]
theorem ex_f {t : Nat → Nat} {n c : Nat} {s : aTs} (hc : c < 256) (h : s.1 ≠ 0) : exS t n c s = s := by
  unfold exS stS; rw [sg_f h, if_neg (by omega), if_neg h]
theorem sm_f {t : Nat → Nat} {n : Nat} {fc : aTs → aTr} {s : aTs} {w : Option Nat} : ∀ f, smS t n fc f s w false = (s, [])
  | 0 => rfl
  | _ + 1 => rfl
def tOk (T : Option Nat) : Prop := ∀ m, T = some m → 4 ≤ m ∧ m ≤ 6
def pOk (P : Option Nat) : Prop := ∀ m, P = some m → 2 ≤ m ∧ m ≤ 3
theorem tOk_n : tOk none := fun m z => by cases z
theorem pOk_n : pOk none := fun m z => by cases z
theorem toO_g {c a1 a2 a3 k m : Nat} (h : toO c a1 a2 a3 k = some m) : k ≤ m := by
  unfold toO at h
  by_cases h1 : c = a1
  · rw [if_pos h1] at h; cases h; omega
  · rw [if_neg h1] at h
    by_cases h2 : c = a2
    · rw [if_pos h2] at h; cases h; omega
    · rw [if_neg h2] at h
      by_cases h3 : c = a3
      · rw [if_pos h3] at h; cases h; omega
      · rw [if_neg h3] at h; cases h
theorem toO_t {c m : Nat} (h : toO c 42 47 37 4 = some m) : tOk (some m) := fun m' z => by
  cases z; have := toO_b h; have := toO_g h; omega
theorem toO_p {c m : Nat} (h : toO c 43 45 45 2 = some m) : pOk (some m) := fun m' z => by
  cases z
  unfold toO at h
  by_cases h1 : c = 43
  · rw [if_pos h1] at h; cases h; omega
  · rw [if_neg h1] at h
    by_cases h2 : c = 45
    · rw [if_pos h2] at h; cases h; omega
    · rw [if_neg h2, if_neg h2] at h; cases h
/-- the top is no sign of a sum -/
def topS (V : List (Nat × Nat)) : Prop := ∀ c V', V = c :: V' → ¬ (2 ≤ c.1 ∧ c.1 ≤ 6)
theorem topS_c {c : Nat × Nat} {V : List (Nat × Nat)} (h : ¬ (2 ≤ c.1 ∧ c.1 ≤ 6)) : topS (c :: V) := fun c' V' e => by
  cases e; exact h
/-- the steps of the model's reader of sums -/
def simR (t : Nat → Nat) (n B : Nat) (SF SH : Nat → Nat → List (Nat × Nat) → List (Nat × Nat) → Prop) (SX : Nat → Nat → Prop) : Prop :=
  (∀ p o C V, sgS t n (0, p) = 91 → o < 6 → SF (p + 1) (o + 1) C ((14, 0) :: V) → SF p o C V) ∧
  (∀ p C V, sgS t n (0, p) = 91 → SX 5 p → SF p 6 C V) ∧
  (∀ p o C V, leT (sgS t n (0, p)) < 9 → SH (p + 1) o (C ++ [(1, leT (sgS t n (0, p)))]) V → SF p o C V) ∧
  (∀ p o C V p' v, leT (sgS t n (0, p)) = 9 → isDg (sgS t n (0, p)) = true → nmS t n 5 (0, p) 0 = ((0, p'), v) → (isDg (sgS t n (0, p')) = false → SH p' o (C ++ [(0, v)]) V) → (isDg (sgS t n (0, p')) = true → SX 2 p') → SF p o C V) ∧
  (∀ p o C V, sgS t n (0, p) ≠ 91 → leT (sgS t n (0, p)) = 9 → isDg (sgS t n (0, p)) = false → SX 1 p → SF p o C V) ∧
  (∀ p o C T P V m, tOk T → pOk P → topS V → B ≤ V.length → toO (sgS t n (0, p)) 42 47 37 4 = some m → SF (p + 1) o (C ++ wtL T) ((m, 0) :: (wtL P ++ V)) → SH p o C (wtL T ++ wtL P ++ V)) ∧
  (∀ p o C T P V m, tOk T → pOk P → topS V → B ≤ V.length → toO (sgS t n (0, p)) 43 45 45 2 = some m → SF (p + 1) o (C ++ wtL T ++ wtL P) ((m, 0) :: V) → SH p o C (wtL T ++ wtL P ++ V)) ∧
  (∀ p o C T P V, tOk T → pOk P → B ≤ V.length → sgS t n (0, p) = 93 → SH (p + 1) o (C ++ wtL T ++ wtL P) V → SH p (o + 1) C (wtL T ++ wtL P ++ (14, 0) :: V)) ∧
  (∀ p o C T P V, tOk T → pOk P → B ≤ V.length → toO (sgS t n (0, p)) 42 47 37 4 = none → toO (sgS t n (0, p)) 43 45 45 2 = none → sgS t n (0, p) ≠ 93 → SX 1 p → SH p o C (wtL T ++ wtL P ++ (14, 0) :: V))
theorem nm_0 {t : Nat → Nat} {n : Nat} : ∀ f s v, (nmS t n f s v).1.1 = s.1
  | 0, s, v => rfl
  | f + 1, s, v => by
    unfold nmS
    split
    · exact nm_0 f _ _
    · rfl
theorem leT_9 (c : Nat) : leT c ≤ 9 := by
  unfold leT
  repeat' split
  all_goals omega
section
variable {t : Nat → Nat} {n B : Nat} {SF SH : Nat → Nat → List (Nat × Nat) → List (Nat × Nat) → Prop} {SX : Nat → Nat → Prop}
/-- a factor is read so -/
def HFac (B : Nat) (SF SH : Nat → Nat → List (Nat × Nat) → List (Nat × Nat) → Prop) (SX : Nat → Nat → Prop) (fc : aTs → aTr) (o : Nat) : Prop := ∀ p C V, 1 ≤ p → B ≤ V.length → ((fc (0, p)).1.1 = 0 → SH (fc (0, p)).1.2 o (C ++ (fc (0, p)).2) V) → ((fc (0, p)).1.1 ≠ 0 → SX (fc (0, p)).1.1 (fc (0, p)).1.2) → SF p o C V
theorem sim_tm (S : simR t n B SF SH SX) {fc : aTs → aTr} {o : Nat} (HF : HFac B SF SH SX fc o) (hp : plR fc) {P : Option Nat} {V : List (Nat × Nat)} (hP : pOk P) (hV : topS V) (hB : B ≤ V.length) : ∀ (f p : Nat) (C : List (Nat × Nat)) (T : Option Nat) (k : Option Nat × aTs) (q : aTr), 1 ≤ p → n < p + f → tOk T → k = tkS t n 42 47 37 4 (0, p) → q = tmS t n fc f k.2 k.1 →
    (q.1.1 = 0 → toO (sgS t n q.1) 42 47 37 4 = none → p ≤ q.1.2 → ∀ C1 T1, tOk T1 → C1 ++ wtL T1 = C ++ wtL T ++ q.2 → SH q.1.2 o C1 (wtL T1 ++ wtL P ++ V)) →
    (q.1.1 ≠ 0 → SX q.1.1 q.1.2) → SH p o C (wtL T ++ wtL P ++ V) := by
  intro f
  have no : ∀ (f p : Nat) (C : List (Nat × Nat)) (T : Option Nat) (k : Option Nat × aTs) (q : aTr), tOk T → k = tkS t n 42 47 37 4 (0, p) → q = tmS t n fc f k.2 k.1 → toO (sgS t n (0, p)) 42 47 37 4 = none → (q.1.1 = 0 → toO (sgS t n q.1) 42 47 37 4 = none → p ≤ q.1.2 → ∀ C1 T1, tOk T1 → C1 ++ wtL T1 = C ++ wtL T ++ q.2 → SH q.1.2 o C1 (wtL T1 ++ wtL P ++ V)) → SH p o C (wtL T ++ wtL P ++ V) := by
    intro f p C T k q hT ek eq z K
    rw [tk_n z] at ek
    rw [ek] at eq
    have e2 : q = ((0, p), []) := by rw [eq]; exact tm_n f
    subst e2
    exact K rfl z (Nat.le_refl _) C T hT (by simp)
  induction f with
  | zero =>
    intro p C T k q hp1 hf hT ek eq K KX
    refine no 0 p C T k q hT ek eq ?_ K
    have : sgS t n (0, p) = 999 := by unfold sgS; rw [if_pos rfl, if_neg (by show ¬ p < n; omega)]
    rw [this]; exact toO_9 (by omega) (by omega) (by omega)
  | succ f ih =>
    intro p C T k q hp1 hf hT ek eq K KX
    cases z : toO (sgS t n (0, p)) 42 47 37 4 with
    | none => exact no (f + 1) p C T k q hT ek eq z K
    | some m =>
      rw [tk_y z] at ek
      rw [ek] at eq
      have eq' : q = tmS t n fc (f + 1) (0, p + 1) (some m) := eq
      rw [tm_s] at eq'
      obtain ⟨r, er⟩ : ∃ r, r = fc (0, p + 1) := ⟨_, rfl⟩
      rw [← er] at eq'
      refine S.2.2.2.2.2.1 p o C T P V m hT hP hV hB z ?_
      refine HF (p + 1) (C ++ wtL T) ((m, 0) :: (wtL P ++ V)) (by omega) (by simp; omega) ?_ ?_
      · rw [← er]
        intro r0
        have pm := hp (0, p + 1) (by rw [← er]; exact r0)
        rw [← er] at pm
        have pm' : r.2.length + (p + 1) ≤ r.1.2 := pm
        have e1 : r.1 = (0, r.1.2) := by rw [← r0]
        have ih' := ih r.1.2 (C ++ wtL T ++ r.2) (some m) (tkS t n 42 47 37 4 r.1) (tmS t n fc f (tkS t n 42 47 37 4 r.1).2 (tkS t n 42 47 37 4 r.1).1) (by omega) (by omega) (toO_t z) (by rw [← e1]) rfl
        obtain ⟨q2, eq2⟩ : ∃ q2, q2 = tmS t n fc f (tkS t n 42 47 37 4 r.1).2 (tkS t n 42 47 37 4 r.1).1 := ⟨_, rfl⟩
        rw [← eq2] at ih' eq'
        subst eq'
        exact ih' (fun a1 a2 a3 C1 T1 h1 h2 => K a1 a2 (by show p ≤ q2.1.2; omega) C1 T1 h1 (by rw [h2]; simp [wtL])) KX
      · rw [← er]
        intro r0
        have : q.1 = r.1 := by
          rw [eq', tk_n (s := r.1) (by rw [sg_f r0]; exact toO_9 (by omega) (by omega) (by omega)), tm_n]
        have KX' := KX
        rw [this] at KX'
        exact KX' r0
theorem sim_sm (S : simR t n B SF SH SX) {fc : aTs → aTr} {o : Nat} (HF : HFac B SF SH SX fc o) (hp : plR fc) (hn : n ≤ 160) {V : List (Nat × Nat)} (hV : topS V) (hB : B ≤ V.length) : ∀ (f p : Nat) (C : List (Nat × Nat)) (w : Option Nat) (z : aTr), 1 ≤ p → n < p + f → pOk w → z = smS t n fc f (0, p) w true →
    (z.1.1 = 0 → toO (sgS t n z.1) 42 47 37 4 = none → toO (sgS t n z.1) 43 45 45 2 = none → ∀ C1 T1 P1, tOk T1 → pOk P1 → C1 ++ wtL T1 ++ wtL P1 = C ++ z.2 → SH z.1.2 o C1 (wtL T1 ++ wtL P1 ++ V)) →
    (z.1.1 ≠ 0 → SX z.1.1 z.1.2) → (f = 0 → SF p o C (wtL w ++ V)) → SF p o C (wtL w ++ V) := by
  intro f
  induction f with
  | zero => intro p C w z _ _ _ _ _ _ K0; exact K0 rfl
  | succ f ih =>
    intro p C w z hp1 hf hw ez K KX _
    rw [sm_st] at ez
    obtain ⟨r, er⟩ : ∃ r, r = fc (0, p) := ⟨_, rfl⟩
    obtain ⟨q, eq⟩ : ∃ q, q = tmQ t n fc (0, p) := ⟨_, rfl⟩
    have ek2 : smK t n fc (0, p) = tkS t n 43 45 45 2 q.1 := by rw [eq]; rfl
    rw [ek2, ← er, ← eq] at ez
    have eq' : q = tmS t n fc 160 (tkS t n 42 47 37 4 r.1).2 (tkS t n 42 47 37 4 r.1).1 := by rw [eq, er]; rfl
    -- a fault so far stays
    have flt : q.1.1 ≠ 0 → SX q.1.1 q.1.2 := by
      intro u
      have : z.1 = q.1 := by
        rw [ez, tk_n (s := q.1) (by rw [sg_f u]; exact toO_9 (by omega) (by omega) (by omega))]
        show (smS t n fc f q.1 none false).1 = q.1
        rw [sm_f]
      have KX' := KX
      rw [this] at KX'
      exact KX' u
    refine HF p C (wtL w ++ V) hp1 (by simp; omega) ?_ ?_
    · rw [← er]
      intro r0
      have pm := hp (0, p) (by rw [← er]; exact r0)
      rw [← er] at pm
      have pm' : r.2.length + p ≤ r.1.2 := pm
      have e1 : r.1 = (0, r.1.2) := by rw [← r0]
      have g := sim_tm S HF hp hw hV hB 160 r.1.2 (C ++ r.2) none (tkS t n 42 47 37 4 r.1) q (by omega) (by omega) tOk_n (by rw [← e1]) eq' ?_ flt
      · exact g
      · intro q0 nt pq C1 T1 hT1 e2
        have e2' : C1 ++ wtL T1 = C ++ r.2 ++ q.2 := by rw [e2]; simp [wtL]
        have eq0 : q.1 = (0, q.1.2) := by rw [← q0]
        cases zp : toO (sgS t n q.1) 43 45 45 2 with
        | none =>
          rw [tk_n zp] at ez
          have ez' : z = (q.1, r.2 ++ q.2 ++ wtL w) := by
            rw [ez]
            show ((smS t n fc f q.1 none false).1, r.2 ++ q.2 ++ wtL w ++ (smS t n fc f q.1 none false).2) = _
            rw [sm_f]; simp
          subst ez'
          exact K q0 nt zp C1 T1 w hT1 hw (by rw [e2']; simp)
        | some w' =>
          rw [tk_y zp] at ez
          have ez' : z = ((smS t n fc f (0, q.1.2 + 1) (some w') true).1, r.2 ++ q.2 ++ wtL w ++ (smS t n fc f (0, q.1.2 + 1) (some w') true).2) := by
            rw [ez]
            show ((smS t n fc f (adS q.1) (some w') true).1, r.2 ++ q.2 ++ wtL w ++ (smS t n fc f (adS q.1) (some w') true).2) = _
            rw [show adS q.1 = (0, q.1.2 + 1) from by unfold adS; rw [q0]]
          obtain ⟨z2, ez2⟩ : ∃ z2, z2 = smS t n fc f (0, q.1.2 + 1) (some w') true := ⟨_, rfl⟩
          rw [← ez2] at ez'
          have lt := (sg_lt (t := t) (n := n) (s := q.1) (fun u => by rw [u, toO_9 (by omega) (by omega) (by omega)] at zp; cases zp)).2
          refine S.2.2.2.2.2.2.1 q.1.2 o C1 T1 w V w' hT1 hw hV hB (by rw [← eq0]; exact zp) ?_
          subst ez'
          refine ih (q.1.2 + 1) (C1 ++ wtL T1 ++ wtL w) (some w') z2 (by omega) (by omega) (toO_p zp) ez2 (fun a1 a2 a3 C2 T2 P2 h1 h2 h3 => K a1 a2 a3 C2 T2 P2 h1 h2 (by rw [h3, e2']; simp)) KX (fun u => by omega)
    · rw [← er]
      intro r0
      have : q.1 = r.1 := by
        rw [eq', tk_n (s := r.1) (by rw [sg_f r0]; exact toO_9 (by omega) (by omega) (by omega)), tm_n]
      rw [this] at flt
      exact flt r0
theorem pl_fac : ∀ e, plR (facS t n e)
  | 0 => pl_fc (S0 := none) (fun S z => by cases z)
  | e + 1 => pl_fc (S0 := some (sumS t n e)) (fun S z => by cases z; exact pl_sum e)
theorem sim_rest (S : simR t n B SF SH SX) {p o : Nat} {C V : List (Nat × Nat)} {r : aTr} (h91 : sgS t n (0, p) ≠ 91) (er : r = if leT (sgS t n (0, p)) < 9 then (adS (0, p), [(1, leT (sgS t n (0, p)))]) else if isDg (sgS t n (0, p)) then nrS t n (0, p) else (stS 1 (0, p), [])) (K : r.1.1 = 0 → SH r.1.2 o (C ++ r.2) V) (KX : r.1.1 ≠ 0 → SX r.1.1 r.1.2) : SF p o C V := by
  by_cases l : leT (sgS t n (0, p)) < 9
  · rw [if_pos l] at er
    subst er
    exact S.2.2.1 p o C V l (K rfl)
  · rw [if_neg l] at er
    have l9 : leT (sgS t n (0, p)) = 9 := by have := leT_9 (sgS t n (0, p)); omega
    by_cases g : isDg (sgS t n (0, p)) = true
    · rw [if_pos g] at er
      obtain ⟨m, em⟩ : ∃ m, m = nmS t n 5 (0, p) 0 := ⟨_, rfl⟩
      have m0 : m.1.1 = 0 := by rw [em]; exact nm_0 5 (0, p) 0
      have e1 : nmS t n 5 (0, p) 0 = ((0, m.1.2), m.2) := by rw [← em, ← m0]
      unfold nrS at er
      rw [e1] at er
      refine S.2.2.2.1 p o C V m.1.2 m.2 l9 g e1 (fun z => ?_) (fun z => ?_)
      · rw [show (if isDg (sgS t n ((0, m.1.2), m.2).1) = true then stS 2 ((0, m.1.2), m.2).1 else ((0, m.1.2), m.2).1) = ((0, m.1.2) : aTs) from if_neg (fun u => by rw [z] at u; cases u)] at er
        subst er
        exact K rfl
      · rw [show (if isDg (sgS t n ((0, m.1.2), m.2).1) = true then stS 2 ((0, m.1.2), m.2).1 else ((0, m.1.2), m.2).1) = ((2, m.1.2) : aTs) from if_pos z] at er
        subst er
        exact KX (show (2 : Nat) ≠ 0 by omega)
    · rw [if_neg g] at er
      have er' : r = ((1, p), []) := er
      subst er'
      exact S.2.2.2.2.1 p o C V h91 l9 (by revert g; cases isDg (sgS t n (0, p)) <;> simp) (KX (show (1 : Nat) ≠ 0 by omega))
theorem fc_n {S0 : Option (aTs → aTr)} {s : aTs} (h : sgS t n s ≠ 91) : fcS0 t n S0 s = if leT (sgS t n s) < 9 then (adS s, [(1, leT (sgS t n s))]) else if isDg (sgS t n s) then nrS t n s else (stS 1 s, []) := by
  unfold fcS0; rw [if_neg h]
theorem sim_fac (S : simR t n B SF SH SX) (hn : n ≤ 160) : ∀ e, e ≤ 6 → HFac B SF SH SX (facS t n e) (6 - e)
  | 0, _ => by
    intro p C V hp hB K KX
    obtain ⟨r, er⟩ : ∃ r, r = facS t n 0 (0, p) := ⟨_, rfl⟩
    have ef : r = fcS0 t n none (0, p) := er
    rw [← er] at K KX
    by_cases h91 : sgS t n (0, p) = 91
    · have : r = ((5, p), []) := by
        rw [ef]; unfold fcS0; rw [if_pos h91]; rfl
      subst this
      exact S.2.1 p C V h91 (KX (show (5 : Nat) ≠ 0 by omega))
    · exact sim_rest S h91 (by rw [ef, fc_n h91]) K KX
  | e + 1, he => by
    intro p C V hp hB K KX
    obtain ⟨r, er⟩ : ∃ r, r = facS t n (e + 1) (0, p) := ⟨_, rfl⟩
    have ef : r = fcS0 t n (some (sumS t n e)) (0, p) := er
    rw [← er] at K KX
    by_cases h91 : sgS t n (0, p) = 91
    · obtain ⟨z, ez⟩ : ∃ z, z = sumS t n e (0, p + 1) := ⟨_, rfl⟩
      have e2 : r = (exS t n 93 z.1, z.2) := by
        rw [ef]; unfold fcS0; rw [if_pos h91, ez]; rfl
      have ih := sim_fac S hn e (by omega)
      refine S.1 p (6 - (e + 1)) C V h91 (by omega) ?_
      rw [show 6 - (e + 1) + 1 = 6 - e by omega]
      refine sim_sm S ih (pl_fac e) hn (V := (14, 0) :: V) (topS_c (by show ¬ (2 ≤ 14 ∧ 14 ≤ 6); omega)) (by simp; omega) 160 (p + 1) C none z (by omega) (by omega) pOk_n (by rw [ez, sumS_eq]) (fun z0 nt np C1 T1 P1 hT hP e3 => ?_) (fun z0 => ?_) (fun u => by omega)
      · have ez0 : z.1 = (0, z.1.2) := by rw [← z0]
        by_cases h93 : sgS t n z.1 = 93
        · have e4 : r = ((0, z.1.2 + 1), z.2) := by
            rw [e2]; unfold exS; rw [if_pos h93]; unfold adS; rw [z0]
          subst e4
          have K' := K rfl
          rw [show 6 - e = 6 - (e + 1) + 1 by omega]
          exact S.2.2.2.2.2.2.2.1 z.1.2 (6 - (e + 1)) C1 T1 P1 V hT hP hB (by rw [← ez0]; exact h93) (by rw [e3]; exact K')
        · have e4 : r = ((1, z.1.2), z.2) := by
            rw [e2]; unfold exS; rw [if_neg h93]; unfold stS; rw [if_pos z0]
          subst e4
          exact S.2.2.2.2.2.2.2.2 z.1.2 (6 - e) C1 T1 P1 V hT hP hB (by rw [← ez0]; exact nt) (by rw [← ez0]; exact np) (by rw [← ez0]; exact h93) (KX (show (1 : Nat) ≠ 0 by omega))
      · have e4 : r = (z.1, z.2) := by rw [e2, ex_f (by omega) z0]
        subst e4
        exact KX z0
    · exact sim_rest S h91 (by rw [ef, fc_n h91]) K KX
/-- a whole sum -/
theorem sim_sum (S : simR t n B SF SH SX) (hn : n ≤ 160) {e p : Nat} {C V : List (Nat × Nat)} {z : aTr} (he : e ≤ 6) (hp : 1 ≤ p) (hV : topS V) (hB : B ≤ V.length) (ez : z = sumS t n e (0, p)) (K : z.1.1 = 0 → toO (sgS t n z.1) 42 47 37 4 = none → toO (sgS t n z.1) 43 45 45 2 = none → ∀ C1 T1 P1, tOk T1 → pOk P1 → C1 ++ wtL T1 ++ wtL P1 = C ++ z.2 → SH z.1.2 (6 - e) C1 (wtL T1 ++ wtL P1 ++ V)) (KX : z.1.1 ≠ 0 → SX z.1.1 z.1.2) : SF p (6 - e) C V :=
  sim_sm S (sim_fac S hn e he) (pl_fac e) hn hV hB 160 p C none z hp (by omega) pOk_n (by rw [ez, sumS_eq]) K KX (fun u => by omega)
end
