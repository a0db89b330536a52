/-! conditions: the model's reader goes the class's way (pure) -/
def jL (k : Nat) (i : Option Nat) : List (Nat × Nat) := match i with
  | none => []
  | some j => [(k, j)]
def jV (piece part : Option Nat) (V : List (Nat × Nat)) : List (Nat × Nat) := jL 11 piece ++ (jL 12 part ++ (13, 0) :: V)
/-- the nots on top are put -/
def flV : Nat → List (Nat × Nat) → List (Nat × Nat) → Nat × List (Nat × Nat) × List (Nat × Nat)
  | o, C, [] => (o, C, [])
  | o, C, c :: V => if c.1 = 10 then flV (o - 1) (C ++ [(10, 0)]) V else (o, C, c :: V)
def fl9 (S9 : Nat → Nat → List (Nat × Nat) → List (Nat × Nat) → Prop) (p o : Nat) (C V : List (Nat × Nat)) : Prop := S9 p (flV o C V).1 (flV o C V).2.1 (flV o C V).2.2
theorem fl_n {o v : Nat} {C V : List (Nat × Nat)} : flV (o + 1) C ((10, v) :: V) = flV o (C ++ [(10, 0)]) V := by
  conv => lhs; unfold flV
  rw [if_pos (show ((10, v) : Nat × Nat).1 = 10 from rfl)]; rfl
theorem fl_o {o : Nat} {C V : List (Nat × Nat)} {c : Nat × Nat} (h : c.1 ≠ 10) : flV o C (c :: V) = (o, C, c :: V) := by
  unfold flV
  rw [if_neg h]
theorem fl_j {o : Nat} {C V : List (Nat × Nat)} {a c : Option Nat} : flV o C (jV a c V) = (o, C, jV a c V) := by
  cases a with
  | some j => exact fl_o (by show (11 : Nat) ≠ 10; omega)
  | none =>
    cases c with
    | some j => exact fl_o (by show (12 : Nat) ≠ 10; omega)
    | none => exact fl_o (by show (13 : Nat) ≠ 10; omega)
theorem jV_t {V : List (Nat × Nat)} {a c : Option Nat} : topS (jV a c V) := by
  cases a with
  | some j => exact topS_c (by show ¬ (2 ≤ 11 ∧ 11 ≤ 6); omega)
  | none =>
    cases c with
    | some j => exact topS_c (by show ¬ (2 ≤ 12 ∧ 12 ≤ 6); omega)
    | none => exact topS_c (by show ¬ (2 ≤ 13 ∧ 13 ≤ 6); omega)
theorem jV_n {V : List (Nat × Nat)} {a c : Option Nat} : jV a c V ≠ [] := by
  cases a <;> cases c <;> exact fun u => by cases u
theorem cd_f {t : Nat → Nat} {n : Nat} {pc : aTr → aTr} {x : aTr} {a c : Option Nat} : ∀ f, cdS t n pc f x a c false = x
  | 0 => rfl
  | _ + 1 => rfl
/-- the steps of the model's reader of conditions -/
def simC (t : Nat → Nat) (n : Nat) (S4 S9 : Nat → Nat → List (Nat × Nat) → List (Nat × Nat) → Prop) (SX : Nat → Nat → Prop) (QE : Nat → List (Nat × Nat) → Prop) : Prop :=
  (∀ p o C V, sgS t n (0, p) = 33 → o < 6 → S4 (p + 1) (o + 1) C ((10, 0) :: V) → S4 p o C V) ∧
  (∀ p C V, sgS t n (0, p) = 33 ∨ sgS t n (0, p) = 40 → SX 5 p → S4 p 6 C V) ∧
  (∀ p o C V, sgS t n (0, p) = 40 → o < 6 → S4 (p + 1) (o + 1) C ((13, 0) :: V) → S4 p o C V) ∧
  (∀ p e C V z, e ≤ 6 → 1 ≤ p → topS V → sgS t n (0, p) ≠ 33 → sgS t n (0, p) ≠ 40 → z = cmS t n (sumS t n e) ((0, p), C) → (z.1.1 = 0 → fl9 S9 z.1.2 (6 - e) z.2 V) → (z.1.1 ≠ 0 → SX z.1.1 z.1.2) → S4 p (6 - e) C V) ∧
  (∀ p o C V a c, sgS t n (0, p) = 38 → S4 (p + 1) o (aiC C a ++ [(11, 0)]) (jV (some (aiC C a).length) c V) → S9 p o C (jV a c V)) ∧
  (∀ p o C V a c, sgS t n (0, p) = 124 → S4 (p + 1) o (aiC (aiC C a) c ++ [(12, 0)]) (jV none (some (aiC (aiC C a) c).length) V) → S9 p o C (jV a c V)) ∧
  (∀ p o C V a c, sgS t n (0, p) = 41 → (V ≠ [] → fl9 S9 (p + 1) o (aiC (aiC C a) c) V) → (V = [] → o = 0 ∧ QE (p + 1) (aiC (aiC C a) c)) → S9 p (o + 1) C (jV a c V)) ∧
  (∀ p o C V a c, sgS t n (0, p) ≠ 38 → sgS t n (0, p) ≠ 124 → sgS t n (0, p) ≠ 41 → SX 1 p → S9 p o C (jV a c V))
section
variable {t : Nat → Nat} {n : Nat} {S4 S9 : Nat → Nat → List (Nat × Nat) → List (Nat × Nat) → Prop} {SX : Nat → Nat → Prop} {QE : Nat → List (Nat × Nat) → Prop}
def HPc (S4 S9 : Nat → Nat → List (Nat × Nat) → List (Nat × Nat) → Prop) (SX : Nat → Nat → Prop) (pc : aTr → aTr) (o : Nat) : Prop := ∀ p C V, 1 ≤ p → C.length ≤ p → topS V → V ≠ [] → ((pc ((0, p), C)).1.1 = 0 → fl9 S9 (pc ((0, p), C)).1.2 o (pc ((0, p), C)).2 V) → ((pc ((0, p), C)).1.1 ≠ 0 → SX (pc ((0, p), C)).1.1 (pc ((0, p), C)).1.2) → S4 p o C V
theorem pl_mo {pc : aTr → aTr} (h1 : plQ pc) (h2 : ∀ x : aTr, x.2.length ≤ (pc x).2.length) {p : Nat} {C : List (Nat × Nat)} (hC : C.length ≤ p) (h0 : (pc ((0, p), C)).1.1 = 0) : p ≤ (pc ((0, p), C)).1.2 ∧ (pc ((0, p), C)).2.length ≤ (pc ((0, p), C)).1.2 := by
  have a := h1 (p - C.length) ((0, p), C) h0 (by show C.length + (p - C.length) ≤ p; omega)
  have c := h2 ((0, p), C)
  have c' : C.length ≤ (pc ((0, p), C)).2.length := c
  omega
theorem sim_cd (S : simC t n S4 S9 SX QE) {pc : aTr → aTr} {o : Nat} (HP : HPc S4 S9 SX pc o) (h1 : plQ pc) (h2 : ∀ x : aTr, x.2.length ≤ (pc x).2.length) (hn : n ≤ 160) {V : List (Nat × Nat)} : ∀ (f p : Nat) (C : List (Nat × Nat)) (part piece : Option Nat) (z : aTr), 1 ≤ p → C.length ≤ p → n < p + f → z = cdS t n pc f ((0, p), C) part piece true →
    (z.1.1 = 0 → sgS t n z.1 ≠ 38 → sgS t n z.1 ≠ 124 → ∀ C1 a c, aiC (aiC C1 a) c = z.2 → S9 z.1.2 o C1 (jV a c V)) →
    (z.1.1 ≠ 0 → SX z.1.1 z.1.2) → (f = 0 → S4 p o C (jV piece part V)) → S4 p o C (jV piece part V) := by
  intro f
  induction f with
  | zero => intro p C part piece z _ _ _ _ _ _ K0; exact K0 rfl
  | succ f ih =>
    intro p C part piece z hp hC hf ez K KX _
    rw [cd_st] at ez
    obtain ⟨r, er⟩ : ∃ r, r = pc ((0, p), C) := ⟨_, rfl⟩
    rw [← er] at ez
    refine HP p C (jV piece part V) hp hC jV_t jV_n ?_ ?_
    · rw [← er]
      intro r0
      have m := pl_mo h1 h2 hC (by rw [← er]; exact r0)
      rw [← er] at m
      have e1 : r.1 = (0, r.1.2) := by rw [← r0]
      unfold fl9
      rw [fl_j]
      show S9 r.1.2 o r.2 (jV piece part V)
      by_cases z1 : sgS t n r.1 = 38
      · rw [if_pos z1] at ez
        have lt := (sg_lt (t := t) (n := n) (s := r.1) (by omega)).2
        have ez' : z = cdS t n pc f ((0, r.1.2 + 1), aiC r.2 piece ++ [(11, 0)]) part (some (aiC r.2 piece).length) true := by
          rw [ez, show adS r.1 = (0, r.1.2 + 1) from by unfold adS; rw [r0]]
        refine S.2.2.2.2.1 r.1.2 o r.2 V piece part (by rw [← e1]; exact z1) ?_
        exact ih (r.1.2 + 1) _ part _ z (by omega) (by rw [List.length_append, aiC_l]; show r.2.length + 1 ≤ _; omega) (by omega) ez' K KX (fun u => by omega)
      · rw [if_neg z1] at ez
        by_cases z2 : sgS t n r.1 = 124
        · rw [if_pos z2] at ez
          have lt := (sg_lt (t := t) (n := n) (s := r.1) (by omega)).2
          have ez' : z = cdS t n pc f ((0, r.1.2 + 1), aiC (aiC r.2 piece) part ++ [(12, 0)]) (some (aiC (aiC r.2 piece) part).length) none true := by
            rw [ez, show adS r.1 = (0, r.1.2 + 1) from by unfold adS; rw [r0]]
          refine S.2.2.2.2.2.1 r.1.2 o r.2 V piece part (by rw [← e1]; exact z2) ?_
          exact ih (r.1.2 + 1) _ _ none z (by omega) (by rw [List.length_append, aiC_l, aiC_l]; show r.2.length + 1 ≤ _; omega) (by omega) ez' K KX (fun u => by omega)
        · rw [if_neg z2, cd_f] at ez
          subst ez
          exact K r0 z1 z2 r.2 piece part rfl
    · rw [← er]
      intro r0
      have s9 := sg_f (t := t) (n := n) r0
      rw [if_neg (by omega), if_neg (by omega), cd_f] at ez
      subst ez
      exact KX r0
theorem sim_pc (S : simC t n S4 S9 SX QE) (hn : n ≤ 160) : ∀ e, e ≤ 6 → HPc S4 S9 SX (pcS t n e) (6 - e)
  | 0, he => by
    intro p C V hp hC hV hV0 K KX
    obtain ⟨r, er⟩ : ∃ r, r = pcS t n 0 ((0, p), C) := ⟨_, rfl⟩
    rw [← er] at K KX
    rw [pcS_0] at er
    unfold pcX at er
    by_cases z1 : sgS t n (0, p) = 33
    · rw [if_pos (show sgS t n ((0, p), C).1 = 33 from z1)] at er
      have er' : r = ((5, p), C) := er
      subst er'
      exact S.2.1 p C V (Or.inl z1) (KX (show (5 : Nat) ≠ 0 by omega))
    · rw [if_neg (show ¬ sgS t n ((0, p), C).1 = 33 from z1)] at er
      by_cases z2 : sgS t n (0, p) = 40
      · rw [if_pos (show sgS t n ((0, p), C).1 = 40 from z2)] at er
        have er' : r = ((5, p), C) := er
        subst er'
        exact S.2.1 p C V (Or.inr z2) (KX (show (5 : Nat) ≠ 0 by omega))
      · rw [if_neg (show ¬ sgS t n ((0, p), C).1 = 40 from z2)] at er
        exact S.2.2.2.1 p 0 C V r he hp hV z1 z2 er K KX
  | e + 1, he => by
    intro p C V hp hC hV hV0 K KX
    obtain ⟨r, er⟩ : ∃ r, r = pcS t n (e + 1) ((0, p), C) := ⟨_, rfl⟩
    rw [← er] at K KX
    rw [pcS_s] at er
    unfold pcX at er
    have ih := sim_pc S hn e (by omega)
    by_cases z1 : sgS t n (0, p) = 33
    · rw [if_pos (show sgS t n ((0, p), C).1 = 33 from z1)] at er
      obtain ⟨w, ew⟩ : ∃ w, w = pcS t n e ((0, p + 1), C) := ⟨_, rfl⟩
      have er' : r = (w.1, w.2 ++ [(10, 0)]) := by rw [er, ew]; rfl
      subst er'
      refine S.1 p (6 - (e + 1)) C V z1 (by omega) ?_
      rw [show 6 - (e + 1) + 1 = 6 - e by omega]
      refine ih (p + 1) C ((10, 0) :: V) (by omega) (by omega) (topS_c (by show ¬ (2 ≤ 10 ∧ 10 ≤ 6); omega)) (fun u => by cases u) ?_ ?_
      · rw [← ew]
        intro w0
        have k := K w0
        unfold fl9 at k ⊢
        rw [show 6 - e = 6 - (e + 1) + 1 by omega, fl_n]
        exact k
      · rw [← ew]
        intro w0
        exact KX w0
    · rw [if_neg (show ¬ sgS t n ((0, p), C).1 = 33 from z1)] at er
      by_cases z2 : sgS t n (0, p) = 40
      · rw [if_pos (show sgS t n ((0, p), C).1 = 40 from z2)] at er
        obtain ⟨w, ew⟩ : ∃ w, w = cdS t n (pcS t n e) 160 ((0, p + 1), C) none none true := ⟨_, rfl⟩
        have er' : r = (exS t n 41 w.1, w.2) := by rw [er, ew]; rfl
        refine S.2.2.1 p (6 - (e + 1)) C V z2 (by omega) ?_
        rw [show 6 - (e + 1) + 1 = 6 - e by omega]
        refine sim_cd S ih (pl_pc e) (fun x => ln_pc e x) hn (V := V) 160 (p + 1) C none none w (by omega) (by omega) (by omega) ew (fun w0 n1 n2 C1 a c e1 => ?_) (fun w0 => ?_) (fun u => by omega)
        · have ew0 : w.1 = (0, w.1.2) := by rw [← w0]
          by_cases z3 : sgS t n w.1 = 41
          · have e4 : r = ((0, w.1.2 + 1), w.2) := by
              rw [er']; unfold exS; rw [if_pos z3]; unfold adS; rw [w0]
            subst e4
            rw [show 6 - e = 6 - (e + 1) + 1 by omega]
            refine S.2.2.2.2.2.2.1 w.1.2 (6 - (e + 1)) C1 V a c (by rw [← ew0]; exact z3) (fun _ => ?_) (fun u => absurd u hV0)
            rw [e1]
            exact K rfl
          · have e4 : r = ((1, w.1.2), w.2) := by
              rw [er']; unfold exS; rw [if_neg z3]; unfold stS; rw [if_pos w0]
            subst e4
            exact S.2.2.2.2.2.2.2 w.1.2 (6 - e) C1 V a c (by rw [← ew0]; exact n1) (by rw [← ew0]; exact n2) (by rw [← ew0]; exact z3) (KX (show (1 : Nat) ≠ 0 by omega))
        · have e4 : r = (w.1, w.2) := by rw [er', ex_f (by omega) w0]
          subst e4
          exact KX w0
      · rw [if_neg (show ¬ sgS t n ((0, p), C).1 = 40 from z2)] at er
        exact S.2.2.2.1 p (e + 1) C V r he hp hV z1 z2 er K KX
/-- a whole condition, behind its first bracket -/
theorem sim_cond (S : simC t n S4 S9 SX QE) (hn : n ≤ 160) {p : Nat} {C : List (Nat × Nat)} {w : aTr} (hp : 1 ≤ p) (hC : C.length ≤ p) (ew : w = cdS t n (pcS t n 5) 160 ((0, p), C) none none true) (K : (exS t n 41 w.1).1 = 0 → QE (exS t n 41 w.1).2 w.2) (KX : (exS t n 41 w.1).1 ≠ 0 → SX (exS t n 41 w.1).1 (exS t n 41 w.1).2) : S4 p 1 C [(13, 0)] := by
  refine sim_cd S (sim_pc S hn 5 (by omega)) (pl_pc 5) (fun x => ln_pc 5 x) hn (V := []) 160 p C none none w hp hC (by omega) ew (fun w0 n1 n2 C1 a c e1 => ?_) (fun w0 => ?_) (fun u => by omega)
  · have ew0 : w.1 = (0, w.1.2) := by rw [← w0]
    by_cases z3 : sgS t n w.1 = 41
    · have e4 : exS t n 41 w.1 = (0, w.1.2 + 1) := by
        unfold exS; rw [if_pos z3]; unfold adS; rw [w0]
      rw [e4] at K
      refine S.2.2.2.2.2.2.1 w.1.2 0 C1 [] a c (by rw [← ew0]; exact z3) (fun u => absurd rfl u) (fun _ => ⟨rfl, ?_⟩)
      rw [e1]
      exact K rfl
    · have e4 : exS t n 41 w.1 = (1, w.1.2) := by
        unfold exS; rw [if_neg z3]; unfold stS; rw [if_pos w0]
      rw [e4] at KX
      exact S.2.2.2.2.2.2.2 w.1.2 1 C1 [] a c (by rw [← ew0]; exact n1) (by rw [← ew0]; exact n2) (by rw [← ew0]; exact z3) (KX (show (1 : Nat) ≠ 0 by omega))
  · rw [ex_f (by omega) w0] at KX
    exact KX w0
end
