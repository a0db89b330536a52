/-! the orders of a law are typed: conditions -/
def cA (C : List (Nat × Nat)) : aCd := fun i => C.getD i (0, 0)
def tyC (C : List (Nat × Nat)) (T : Nat → Nat) (fr : Nat) (U : Nat → Prop) (k : Nat) : Prop := fr ≤ C.length ∧ T fr = 0 ∧ T C.length = k ∧ ∀ p, fr ≤ p → p < C.length → ¬ U p → okO (cA C) T C.length p
def unA (C : List (Nat × Nat)) (T : Nat → Nat) (j : Nat) : Prop := j < C.length ∧ ((C.getD j (0, 0)).1 = 11 ∨ (C.getD j (0, 0)).1 = 12) ∧ (C.getD j (0, 0)).2 = 0 ∧ T j = 100 ∧ T (j + 1) = 0
def exL (lo : Nat) (C : List (Nat × Nat)) (T : Nat → Nat) (C' : List (Nat × Nat)) (T' : Nat → Nat) : Prop := C.length ≤ C'.length ∧ (∀ i, i < lo → C'.getD i (0, 0) = C.getD i (0, 0)) ∧ ∀ i, i ≤ lo → T' i = T i
theorem exL.tr {lo : Nat} {C C1 C2 : List (Nat × Nat)} {T T1 T2 : Nat → Nat} (a : exL lo C T C1 T1) (c : exL lo C1 T1 C2 T2) : exL lo C T C2 T2 := ⟨Nat.le_trans a.1 c.1, fun i hi => (c.2.1 i hi).trans (a.2.1 i hi), fun i hi => (c.2.2 i hi).trans (a.2.2 i hi)⟩
theorem exL.mo {lo lo' : Nat} {C C1 : List (Nat × Nat)} {T T1 : Nat → Nat} (a : exL lo C T C1 T1) (h : lo' ≤ lo) : exL lo' C T C1 T1 := ⟨a.1, fun i hi => a.2.1 i (by omega), fun i hi => a.2.2 i (by omega)⟩
theorem unA.ex {C C1 : List (Nat × Nat)} {T T1 : Nat → Nat} {j : Nat} (u : unA C T j) (a : exL C.length C T C1 T1) : unA C1 T1 j := by
  obtain ⟨u1, u2, u3, u4, u5⟩ := u
  exact ⟨Nat.lt_of_lt_of_le u1 a.1, by rw [a.2.1 j u1]; exact u2, by rw [a.2.1 j u1]; exact u3, by rw [a.2.2 j (by omega)]; exact u4, by rw [a.2.2 (j + 1) u1]; exact u5⟩
theorem okO.mv {A A' : aCd} {T T' : Nat → Nat} {to to' p : Nat} (h : okO A T to p) (e : A' p = A p) (e1 : T' p = T p) (e2 : T' (p + 1) = T (p + 1)) (e3 : ∀ i, i ≤ to → T' i = T i) (hto : to ≤ to') : okO A' T' to' p := by
  unfold okO oP oV at h ⊢
  rw [e, e1, e2]
  rcases h with h | h | h | h | h
  · exact Or.inl h
  · exact Or.inr (Or.inl h)
  · exact Or.inr (Or.inr (Or.inl h))
  · exact Or.inr (Or.inr (Or.inr (Or.inl h)))
  · refine Or.inr (Or.inr (Or.inr (Or.inr ⟨h.1, h.2.1, h.2.2.1, h.2.2.2.1, by omega, ?_⟩)))
    rw [e3 _ h.2.2.2.2.1]; exact h.2.2.2.2.2
theorem tyC.wk {C : List (Nat × Nat)} {T : Nat → Nat} {fr k : Nat} {U U' : Nat → Prop} (h : tyC C T fr U k) (hu : ∀ p, U p → U' p) : tyC C T fr U' k := ⟨h.1, h.2.1, h.2.2.1, fun p h1 h2 h3 => h.2.2.2 p h1 h2 (fun u => h3 (hu p u))⟩
theorem ty_a1 {C : List (Nat × Nat)} {T : Nat → Nat} {fr a b : Nat} {U : Nat → Prop} {x : Nat × Nat} (h : tyC C T fr U a) (s : U C.length ∨ ∀ (A : aCd) (T' : Nat → Nat), A C.length = x → T' C.length = a → T' (C.length + 1) = b → okO A T' (C.length + 1) C.length) : ∃ T', tyC (C ++ [x]) T' fr U b ∧ exL C.length C T (C ++ [x]) T' := by
  obtain ⟨h1, h2, h3, h4⟩ := h
  have l : (C ++ [x]).length = C.length + 1 := by simp
  refine ⟨fun i => if i ≤ C.length then T i else b, ⟨by omega, ?_, ?_, fun p p1 p2 p3 => ?_⟩, ⟨by omega, fun i hi => getD_ap hi, fun i hi => if_pos hi⟩⟩
  · show (if fr ≤ C.length then T fr else b) = 0
    rw [if_pos h1]; exact h2
  · show (if (C ++ [x]).length ≤ C.length then T (C ++ [x]).length else b) = b
    rw [if_neg (by omega)]
  · rw [l] at p2 ⊢
    by_cases q : p = C.length
    · subst q
      rcases s with s | s
      · exact absurd s p3
      · refine s _ _ (by show (C ++ [x]).getD C.length (0, 0) = x; simp [List.getD]) ?_ ?_
        · show (if C.length ≤ C.length then T C.length else b) = a
          rw [if_pos (Nat.le_refl _)]; exact h3
        · show (if C.length + 1 ≤ C.length then T (C.length + 1) else b) = b
          rw [if_neg (by omega)]
    · exact (h4 p p1 (by omega) p3).mv (getD_ap (by omega)) (if_pos (by omega)) (if_pos (by omega)) (fun i hi => if_pos hi) (by omega)
theorem ty_run {fr : Nat} {U : Nat → Prop} : ∀ (c C : List (Nat × Nat)) (T : Nat → Nat) (a b : Nat), tyC C T fr U a → tyR a c = some b → ∃ T', tyC (C ++ c) T' fr U b ∧ exL C.length C T (C ++ c) T'
  | [], C, T, a, b, h, e => by
    cases e
    rw [List.append_nil]
    exact ⟨T, h, Nat.le_refl _, fun _ _ => rfl, fun _ _ => rfl⟩
  | x :: c, C, T, a, b, h, e => by
    have go : ∀ m, tyR m c = some b → (∀ (A : aCd) (T' : Nat → Nat), A C.length = x → T' C.length = a → T' (C.length + 1) = m → okO A T' (C.length + 1) C.length) → ∃ T', tyC (C ++ x :: c) T' fr U b ∧ exL C.length C T (C ++ x :: c) T' := by
      intro m e1 s
      obtain ⟨T1, h1, x1⟩ := ty_a1 (x := x) (b := m) h (Or.inr s)
      obtain ⟨T2, h2, x2⟩ := ty_run c (C ++ [x]) T1 m b h1 e1
      rw [show C ++ x :: c = C ++ [x] ++ c by simp]
      exact ⟨T2, h2, x1.tr (x2.mo (by simp))⟩
    unfold tyR at e
    by_cases h1 : x.1 ≤ 1 ∧ a < 20 ∧ x.2 < 100000 ∧ (x.1 = 1 → x.2 < 9)
    · rw [if_pos h1] at e
      refine go _ e (fun A T' eA t1 t2 => Or.inl ?_)
      unfold oP oV
      rw [eA, t1, t2]
      exact ⟨h1.1, h1.2.1, rfl, h1.2.2.1, h1.2.2.2⟩
    · rw [if_neg h1] at e
      by_cases h2 : 2 ≤ x.1 ∧ x.1 ≤ 6 ∧ 2 ≤ a ∧ a ≤ 20 ∧ x.2 = 0
      · rw [if_pos h2] at e
        refine go _ e (fun A T' eA t1 t2 => Or.inr (Or.inl ?_))
        unfold oP oV
        rw [eA, t1, t2]
        exact ⟨h2.1, h2.2.1, h2.2.2.1, h2.2.2.2.1, rfl, h2.2.2.2.2⟩
      · rw [if_neg h2] at e; cases e
theorem ty_aim {C : List (Nat × Nat)} {T : Nat → Nat} {fr : Nat} {U : Nat → Prop} {i : Option Nat} (h : tyC C T fr (fun p => U p ∨ i = some p) 100) (u : ∀ j, i = some j → unA C T j) : tyC (aiC C i) T fr U 100 := by
  cases i with
  | none => exact h.wk (fun p q => by rcases q with q | q; exact q; cases q)
  | some j =>
    obtain ⟨u1, u2, u3, u4, u5⟩ := u j rfl
    obtain ⟨h1, h2, h3, h4⟩ := h
    have l := aiC_l C (some j)
    refine ⟨by rw [l]; exact h1, h2, by rw [l]; exact h3, fun p p1 p2 p3 => ?_⟩
    rw [l] at p2 ⊢
    by_cases q : p = j
    · subst q
      have e : cA (aiC C (some p)) p = ((C.getD p (0, 0)).1, (C.getD p (0, 0)).2 + C.length) := by
        show (C.set p ((C.getD p (0, 0)).1, (C.getD p (0, 0)).2 + C.length)).getD p (0, 0) = _
        simp [List.getD, u1]
      refine Or.inr (Or.inr (Or.inr (Or.inr ?_)))
      unfold oP oV
      rw [e, u3, Nat.zero_add]
      exact ⟨u2, u4, u5, u1, Nat.le_refl _, h3⟩
    · exact (h4 p p1 p2 (fun v => by rcases v with v | v; exact p3 v; exact q (by cases v; rfl))).mv (getD_set q) rfl rfl (fun _ _ => rfl) (Nat.le_refl _)
theorem unA.ai {C : List (Nat × Nat)} {T : Nat → Nat} {j : Nat} {i : Option Nat} (u : unA C T j) (h : i ≠ some j) : unA (aiC C i) T j := by
  cases i with
  | none => exact u
  | some k =>
    obtain ⟨u1, u2, u3, u4, u5⟩ := u
    have e : (aiC C (some k)).getD j (0, 0) = C.getD j (0, 0) := getD_set (fun w => h (by rw [w]))
    exact ⟨by rw [aiC_l]; exact u1, by rw [e]; exact u2, by rw [e]; exact u3, u4, u5⟩
theorem exL_ai {C : List (Nat × Nat)} {T : Nat → Nat} {lo : Nat} {i : Option Nat} (h : ∀ j, i = some j → lo ≤ j) : exL lo C T (aiC C i) T := by
  refine ⟨by rw [aiC_l]; exact Nat.le_refl _, fun k hk => ?_, fun _ _ => rfl⟩
  cases i with
  | none => rfl
  | some j => exact getD_set (by have := h j rfl; omega)
section
variable {t : Nat → Nat} {n : Nat}
def tyP (n : Nat) (pc : aTr → aTr) : Prop := ∀ p C T fr U, 1 ≤ p → C.length ≤ p → p ≤ n → (pc ((0, p), C)).1.1 = 0 → tyC C T fr U 0 → ∃ T', tyC (pc ((0, p), C)).2 T' fr U 100 ∧ exL C.length C T (pc ((0, p), C)).2 T'
theorem ty_cm {e : Nat} (he : e ≤ 6) : tyP n (cmS t n (sumS t n e)) := by
  intro p C T fr U hp hC hpn h0 ty
  obtain ⟨r, er⟩ : ∃ r, r = sumS t n e (0, p) := ⟨_, rfl⟩
  obtain ⟨q, eq⟩ : ∃ q, q = tkS t n 60 62 61 7 r.1 := ⟨_, rfl⟩
  obtain ⟨r2, er2⟩ : ∃ r2, r2 = sumS t n e (if q.1.isSome then q.2 else stS 1 q.2) := ⟨_, rfl⟩
  have ez : cmS t n (sumS t n e) ((0, p), C) = (r2.1, C ++ r.2 ++ r2.2 ++ wtL q.1) := by rw [er2, eq, er]; rfl
  rw [ez] at h0 ⊢
  have h0' : r2.1.1 = 0 := h0
  obtain ⟨k1, k2⟩ := pl_tk (t := t) (n := n) (a1 := 60) (a2 := 62) (a3 := 61) (k := 7) (s := r.1)
  rw [← eq] at k1 k2
  have h3 : (if q.1.isSome then q.2 else stS 1 q.2).1 = 0 := Classical.byContradiction (fun u => fk_sum e _ u (by rw [← er2]; exact h0'))
  cases hq : q.1 with
  | none =>
    rw [hq] at h3
    exact (ad_st h3 (by omega)).elim
  | some m =>
    rw [hq] at h3 er2
    have h4 : q.2.1 = 0 := h3
    have er2' : r2 = sumS t n e q.2 := er2
    have r0 : r.1.1 = 0 := by rw [← k2]; exact h4
    have hm : 7 ≤ m ∧ m ≤ 9 := by
      have e' : toO (sgS t n r.1) 60 62 61 7 = some m := by rw [eq] at hq; exact hq
      have := toO_b e'; have := toO_g e'; omega
    have s1 := ty_sum (t := t) (n := n) e he (0, p) 0 (by omega) (by rw [← er]; exact r0)
    rw [← er] at s1
    have s2 := ty_sum (t := t) (n := n) e he q.2 1 (by omega) (by rw [← er2']; exact h0')
    rw [← er2'] at s2
    obtain ⟨T1, y1, x1⟩ := ty_run r.2 C T 0 1 ty s1
    obtain ⟨T2, y2, x2⟩ := ty_run r2.2 (C ++ r.2) T1 1 2 y1 s2
    obtain ⟨T3, y3, x3⟩ := ty_a1 (x := (m, 0)) (b := 100) y2 (Or.inr (fun A T' eA t1 t2 => by
      refine Or.inr (Or.inr (Or.inl ?_))
      unfold oP oV
      rw [eA, t1, t2]
      exact ⟨hm.1, hm.2, rfl, rfl, rfl⟩))
    have l1 : C.length ≤ (C ++ r.2).length := by simp
    have l2 : (C ++ r.2).length ≤ (C ++ r.2 ++ r2.2).length := by simp
    exact ⟨T3, y3, (x1.tr (x2.mo l1)).tr (x3.mo (by omega))⟩
theorem ty_cd {pc : aTr → aTr} (hp : tyP n pc) (h1 : plQ pc) (h2 : ∀ x : aTr, x.2.length ≤ (pc x).2.length) (fk : ∀ x : aTr, x.1.1 ≠ 0 → (pc x).1.1 ≠ 0) {fr lo : Nat} {U : Nat → Prop} : ∀ (f p : Nat) (C : List (Nat × Nat)) (T : Nat → Nat) (part piece : Option Nat) (z : aTr), 1 ≤ p → C.length ≤ p → p ≤ n → n < p + f → z = cdS t n pc f ((0, p), C) part piece true → z.1.1 = 0 → lo ≤ C.length → tyC C T fr (fun i => (U i ∨ part = some i) ∨ piece = some i) 0 → (∀ j, part = some j → unA C T j ∧ lo ≤ j) → (∀ j, piece = some j → unA C T j ∧ lo ≤ j) → (∀ j, part = some j → piece ≠ some j) → ∃ T', tyC z.2 T' fr U 100 ∧ exL lo C T z.2 T' := by
  intro f
  induction f with
  | zero => intro p C T part piece z _ _ a1 a2; omega
  | succ f ih =>
    intro p C T part piece z hp1 hC hpn hf ez z0 hlo ty u1 u2 u3
    rw [cd_st] at ez
    obtain ⟨r, er⟩ : ∃ r, r = pc ((0, p), C) := ⟨_, rfl⟩
    rw [← er] at ez
    have r0 : r.1.1 = 0 := by
      refine Classical.byContradiction (fun u => ?_)
      rw [sg_f u, if_neg (by omega), if_neg (by omega), cd_f] at ez
      subst ez
      exact u z0
    obtain ⟨T1, y1, x1⟩ := hp p C T fr _ hp1 hC hpn (by rw [← er]; exact r0) ty
    have m := pl_mo h1 h2 hC (by rw [← er]; exact r0)
    rw [← er] at y1 x1 m
    have v1 : ∀ j, part = some j → unA r.2 T1 j := fun j e => (u1 j e).1.ex x1
    have v2 : ∀ j, piece = some j → unA r.2 T1 j := fun j e => (u2 j e).1.ex x1
    have lr := x1.1
    -- the piece is aimed
    have y2 : tyC (aiC r.2 piece) T1 fr (fun i => U i ∨ part = some i) 100 := ty_aim y1 v2
    have x2 : exL lo C T (aiC r.2 piece) T1 := (x1.mo hlo).tr (exL_ai (fun j e => (u2 j e).2))
    have w1 : ∀ j, part = some j → unA (aiC r.2 piece) T1 j := fun j e => (v1 j e).ai (u3 j e)
    have l2 := aiC_l r.2 piece
    -- and the part
    have y3 : tyC (aiC (aiC r.2 piece) part) T1 fr U 100 := ty_aim y2 w1
    have x3 : exL lo C T (aiC (aiC r.2 piece) part) T1 := x2.tr (exL_ai (fun j e => (u1 j e).2))
    have l3 := aiC_l (aiC r.2 piece) part
    have ad : adS r.1 = (0, r.1.2 + 1) := by unfold adS; rw [r0]
    by_cases z1 : sgS t n r.1 = 38
    · rw [if_pos z1, ad] at ez
      have lt := (sg_lt (t := t) (n := n) (s := r.1) (by omega)).2
      obtain ⟨C1, eC1⟩ : ∃ C1, C1 = aiC r.2 piece := ⟨_, rfl⟩
      rw [← eC1] at ez y2 x2 w1 l2
      obtain ⟨T4, y4, x4⟩ := ty_a1 (x := (11, 0)) (b := 0) (y2.wk (U' := fun i => (U i ∨ part = some i) ∨ some C1.length = some i) (fun p q => Or.inl q)) (Or.inl (Or.inr rfl))
      have l4 : (C1 ++ [(11, 0)]).length = C1.length + 1 := by simp
      have un : unA (C1 ++ [(11, 0)]) T4 C1.length := ⟨by omega, Or.inl (by simp [List.getD]), by simp [List.getD], by rw [x4.2.2 _ (Nat.le_refl _)]; exact y2.2.2.1, by have := y4.2.2.1; rw [l4] at this; exact this⟩
      obtain ⟨T5, y5, x5⟩ := ih (r.1.2 + 1) (C1 ++ [(11, 0)]) T4 part (some C1.length) z (by omega) (by omega) (by omega) (by omega) ez z0 (by omega) y4 (fun j e => ⟨(w1 j e).ex x4, (u1 j e).2⟩) (fun j e => by cases e; exact ⟨un, by omega⟩) (fun j e q => by cases q; have := (w1 _ e).1; omega)
      exact ⟨T5, y5, (x2.tr (x4.mo (by omega))).tr x5⟩
    · rw [if_neg z1] at ez
      by_cases z2 : sgS t n r.1 = 124
      · rw [if_pos z2, ad] at ez
        have lt := (sg_lt (t := t) (n := n) (s := r.1) (by omega)).2
        obtain ⟨C1, eC1⟩ : ∃ C1, C1 = aiC (aiC r.2 piece) part := ⟨_, rfl⟩
        rw [← eC1] at ez y3 x3 l3
        obtain ⟨T4, y4, x4⟩ := ty_a1 (x := (12, 0)) (b := 0) (y3.wk (U' := fun i => (U i ∨ some C1.length = some i) ∨ none = some i) (fun p q => Or.inl (Or.inl q))) (Or.inl (Or.inl (Or.inr rfl)))
        have l4 : (C1 ++ [(12, 0)]).length = C1.length + 1 := by simp
        have un : unA (C1 ++ [(12, 0)]) T4 C1.length := ⟨by omega, Or.inr (by simp [List.getD]), by simp [List.getD], by rw [x4.2.2 _ (Nat.le_refl _)]; exact y3.2.2.1, by have := y4.2.2.1; rw [l4] at this; exact this⟩
        obtain ⟨T5, y5, x5⟩ := ih (r.1.2 + 1) (C1 ++ [(12, 0)]) T4 (some C1.length) none z (by omega) (by omega) (by omega) (by omega) ez z0 (by omega) y4 (fun j e => by cases e; exact ⟨un, by omega⟩) (fun j e => by cases e) (fun j e q => by cases q)
        exact ⟨T5, y5, (x3.tr (x4.mo (by omega))).tr x5⟩
      · rw [if_neg z2, cd_f] at ez
        subst ez
        exact ⟨T1, y3, x3⟩
theorem ty_pc (hn : n ≤ 160) : ∀ e, e ≤ 6 → tyP n (pcS t n e)
  | 0, he => by
    intro p C T fr U hp hC hpn h0 ty
    obtain ⟨r, er⟩ : ∃ r, r = pcS t n 0 ((0, p), C) := ⟨_, rfl⟩
    rw [← er] at h0 ⊢
    rw [pcS_0] at er
    unfold pcX at er
    by_cases z1 : sgS t n ((0, p), C).1 = 33
    · rw [if_pos z1] at er
      rw [er] at h0
      exact (ad_st h0 (by omega)).elim
    · rw [if_neg z1] at er
      by_cases z2 : sgS t n ((0, p), C).1 = 40
      · rw [if_pos z2] at er
        rw [er] at h0
        exact (ad_st h0 (by omega)).elim
      · rw [if_neg z2] at er
        have := ty_cm (t := t) (n := n) he p C T fr U hp hC hpn (by rw [← er]; exact h0) ty
        rw [← er] at this
        exact this
  | e + 1, he => by
    intro p C T fr U hp hC hpn h0 ty
    obtain ⟨r, er⟩ : ∃ r, r = pcS t n (e + 1) ((0, p), C) := ⟨_, rfl⟩
    rw [← er] at h0 ⊢
    rw [pcS_s] at er
    unfold pcX at er
    have ih := ty_pc hn e (by omega)
    by_cases z1 : sgS t n (0, p) = 33
    · rw [if_pos (show sgS t n ((0, p), C).1 = 33 from z1)] at er
      have lt : p < n := (sg_lt (t := t) (n := n) (s := (0, p)) (by omega)).2
      obtain ⟨w, ew⟩ : ∃ w, w = pcS t n e ((0, p + 1), C) := ⟨_, rfl⟩
      have er' : r = (w.1, w.2 ++ [(10, 0)]) := by rw [er, ew]; rfl
      subst er'
      obtain ⟨T1, y1, x1⟩ := ih (p + 1) C T fr U (by omega) (by omega) (by omega) (by rw [← ew]; exact h0) ty
      rw [← ew] at y1 x1
      obtain ⟨T2, y2, x2⟩ := ty_a1 (x := (10, 0)) (b := 100) y1 (Or.inr (fun A T' eA t1 t2 => by
        refine Or.inr (Or.inr (Or.inr (Or.inl ?_)))
        unfold oP oV
        rw [eA, t1, t2]
        exact ⟨rfl, rfl, rfl, rfl⟩))
      exact ⟨T2, y2, x1.tr (x2.mo x1.1)⟩
    · rw [if_neg (show ¬ sgS t n ((0, p), C).1 = 33 from z1)] at er
      by_cases z2 : sgS t n (0, p) = 40
      · rw [if_pos (show sgS t n ((0, p), C).1 = 40 from z2)] at er
        have lt : p < n := (sg_lt (t := t) (n := n) (s := (0, p)) (by omega)).2
        obtain ⟨w, ew⟩ : ∃ w, w = cdS t n (pcS t n e) 160 ((0, p + 1), C) none none true := ⟨_, rfl⟩
        have er' : r = (exS t n 41 w.1, w.2) := by rw [er, ew]; rfl
        subst er'
        obtain ⟨T1, y1, x1⟩ := ty_cd (t := t) ih (pl_pc e) (fun x => ln_pc e x) (fun x z => fk_pc e x z) (lo := C.length) (U := U) 160 (p + 1) C T none none w (by omega) (by omega) (by omega) (by omega) ew (pl_ex h0).2 (Nat.le_refl _) (ty.wk (fun i q => Or.inl (Or.inl q))) (fun j e => by cases e) (fun j e => by cases e) (fun j e => by cases e)
        exact ⟨T1, y1, x1⟩
      · rw [if_neg (show ¬ sgS t n ((0, p), C).1 = 40 from z2)] at er
        have := ty_cm (t := t) (n := n) he p C T fr U hp hC hpn (by rw [← er]; exact h0) ty
        rw [← er] at this
        exact this
end
