/-! a law that was read is typed -/
theorem okC.mv {A A' : aCd} {T : Nat → Nat} {fr to fin : Nat} (h : okC A T fr to fin) (e : ∀ i, i < to → A' i = A i) : okC A' T fr to fin :=
  ⟨h.1, h.2.1, h.2.2.1, h.2.2.2.1, fun p h1 h2 => (h.2.2.2.2 p h1 h2).mv (e p h2) rfl rfl (fun _ _ => rfl) (Nat.le_refl _)⟩
theorem ex_y {t : Nat → Nat} {n c : Nat} {s : aTs} (h : (exS t n c s).1 = 0) : s.1 = 0 ∧ sgS t n s = c ∧ exS t n c s = (0, s.2 + 1) := by
  have h0 := ex_0 h
  by_cases z : sgS t n s = c
  · refine ⟨h0, z, ?_⟩
    unfold exS adS; rw [if_pos z, h0]
  · unfold exS at h
    rw [if_neg z] at h
    exact (ad_st h (by omega)).elim
section
variable {t : Nat → Nat} {n : Nat}
theorem ty_c3 {p : Nat} {C : List (Nat × Nat)} {y z : aTr} (hn : n ≤ 160) (hC : C.length ≤ p) (ey : y = c1S t n ((0, p), C)) (ez : z = c3S t n ((0, p), C)) (z0 : z.1.1 = 0) : (∃ T, okC (cA z.2) T C.length y.2.length 1) ∧ (∃ T, okC (cA z.2) T y.2.length z.2.length 100) ∧ (∀ i, i < C.length → z.2.getD i (0, 0) = C.getD i (0, 0)) ∧ C.length ≤ z.2.length ∧ z.2.length ≤ z.1.2 ∧ z.1.2 ≤ n := by
  obtain ⟨y2, ey2⟩ : ∃ y, y = c2S t n ((0, p), C) := ⟨_, rfl⟩
  have eq2 : y2 = cdS t n (pcS t n 5) 160 (exS t n 40 y.1, y.2) none none true := by rw [ey2, ey]; unfold c2S; rfl
  have eq3 : z = (exS t n 41 y2.1, y2.2) := by rw [ez, ey2]; unfold c3S; rfl
  have pz := pl_c3 (t := t) (n := n) (x := ((0, p), C)) (by rw [← ez]; exact z0)
  have pz2 := pz.2 hC
  rw [← ez] at pz2
  subst eq3
  have x41 := ex_y (t := t) (n := n) (c := 41) (s := y2.1) z0
  have lt41 := (sg_lt (t := t) (n := n) (s := y2.1) (by omega)).2
  have h40 : (exS t n 40 y.1).1 = 0 := Classical.byContradiction (fun u => fk_cd (fun x z => fk_pc 5 x z) 160 (exS t n 40 y.1, y.2) none none true u (by rw [← eq2]; exact x41.1))
  have x40 := ex_y h40
  have lt40 := (sg_lt (t := t) (n := n) (s := y.1) (by omega)).2
  obtain ⟨r, er⟩ : ∃ r, r = sumS t n 6 (exS t n 118 (0, p)) := ⟨_, rfl⟩
  have ec1 : y = (r.1, C ++ r.2) := by rw [ey, er]; unfold c1S; rfl
  have r0 : r.1.1 = 0 := by have := x40.1; rw [ec1] at this; exact this
  have h118 : (exS t n 118 (0, p)).1 = 0 := Classical.byContradiction (fun u => fk_sum 6 _ u (by rw [← er]; exact r0))
  have x118 := ex_y h118
  have x118' : exS t n 118 (0, p) = (0, p + 1) := x118.2.2
  rw [x118'] at er
  have pr := pl_sum (t := t) (n := n) 6 (0, p + 1) (by rw [← er]; exact r0)
  rw [← er] at pr
  have pr' : r.2.length + (p + 1) ≤ r.1.2 := pr
  have s1 := ty_sum (t := t) (n := n) 6 (by omega) (0, p + 1) 0 (by omega) (by rw [← er]; exact r0)
  rw [← er] at s1
  have ly : y.2 = C ++ r.2 := by rw [ec1]
  have lp : y.1.2 = r.1.2 := by rw [ec1]
  have ll : y.2.length = C.length + r.2.length := by rw [ly, List.length_append]
  obtain ⟨T1, t1, e1⟩ := ty_run r.2 C (fun _ => 0) 0 1 (fr := C.length) (U := fun _ => False) ⟨Nat.le_refl _, rfl, rfl, fun p q1 q2 => by omega⟩ s1
  rw [← ly] at t1 e1
  rw [x40.2.2] at eq2
  obtain ⟨T2, t2, e2⟩ := ty_cd (t := t) (ty_pc (t := t) hn 5 (by omega)) (pl_pc 5) (fun x => ln_pc 5 x) (fun x z => fk_pc 5 x z) (fr := y.2.length) (lo := y.2.length) (U := fun _ => False) 160 (y.1.2 + 1) y.2 (fun _ => 0) none none y2 (by omega) (by omega) (by omega) (by omega) eq2 x41.1 (Nat.le_refl _) ⟨Nat.le_refl _, rfl, rfl, fun p q1 q2 => by omega⟩ (fun j e => by cases e) (fun j e => by cases e) (fun j e => by cases e)
  have zp : (exS t n 41 y2.1).2 = y2.1.2 + 1 := by rw [x41.2.2]
  have pz2' : y2.2.length ≤ (exS t n 41 y2.1).2 := pz2
  have l2 := e2.1
  refine ⟨⟨T1, t1.2.1, t1.2.2.1, by omega, by omega, fun q q1 q2 => ?_⟩, ⟨T2, t2.2.1, t2.2.2.1, l2, by show y2.2.length ≤ 160; omega, fun q q1 q2 => t2.2.2.2 q q1 q2 (fun u => u)⟩, fun i hi => ?_, by show C.length ≤ y2.2.length; omega, pz2', by show (exS t n 41 y2.1).2 ≤ n; omega⟩
  · exact (t1.2.2.2 q q1 q2 (fun u => u)).mv (e2.2.1 q q2) rfl rfl (fun _ _ => rfl) (Nat.le_refl _)
  · exact (e2.2.1 i (by omega)).trans (e1.2.1 i hi)
/-- all clauses so far are typed -/
def tyM (C M : List (Nat × Nat)) : Prop := M.length ≤ 12 ∧ C.length = lbM M M.length ∧ ∀ q, q < M.length → lbM M (q + 1) ≤ C.length ∧ (∃ T, okC (cA C) T (lbM M q) (M.getD q (0, 0)).1 1) ∧ ∃ T, okC (cA C) T (M.getD q (0, 0)).1 (lbM M (q + 1)) 100
theorem ty_cl (hn : n ≤ 160) : ∀ (f p : Nat) (C M : List (Nat × Nat)) (m : Bool) (Z : aTr × List (Nat × Nat) × Bool), M.length + f ≤ 12 → Z = clS t n f ((0, p), C) M m → Z.1.1.1 = 0 → C.length ≤ p → tyM C M → tyM Z.1.2 Z.2.1 := by
  intro f
  induction f with
  | zero => intro p C M m Z hf eZ z0 hC ty; subst eZ; exact ty
  | succ f ih =>
    intro p C M m Z hf eZ z0 hC ty
    cases m with
    | false => subst eZ; exact ty
    | true =>
      rw [cl_st] at eZ
      obtain ⟨z, ez⟩ : ∃ z, z = c3S t n ((0, p), C) := ⟨_, rfl⟩
      obtain ⟨y, ey⟩ : ∃ y, y = c1S t n ((0, p), C) := ⟨_, rfl⟩
      rw [← ez, ← ey] at eZ
      have i1 := (pl_cl f _ _ _ (by rw [← eZ]; exact z0)).1
      have i1' : (if mrS n z.1 then exS t n 59 z.1 else z.1).1 = 0 := i1
      have zz : z.1.1 = 0 := by
        by_cases w : mrS n z.1 = true
        · rw [if_pos w] at i1'; exact ex_0 i1'
        · rw [if_neg w] at i1'; exact i1'
      obtain ⟨a1, a2, a3, a4, a5, a6⟩ := ty_c3 hn hC ey ez zz
      obtain ⟨p', ep⟩ : ∃ p', (if mrS n z.1 then exS t n 59 z.1 else z.1) = (0, p') ∧ z.1.2 ≤ p' := by
        by_cases w : mrS n z.1 = true
        · rw [if_pos w] at i1' ⊢
          exact ⟨z.1.2 + 1, (ex_y i1').2.2, by omega⟩
        · rw [if_neg w]
          exact ⟨z.1.2, by rw [← zz], Nat.le_refl _⟩
      rw [ep.1] at eZ
      refine ih p' z.2 (M ++ [(y.2.length, z.2.length)]) (mrS n z.1) Z (by simp; omega) eZ z0 (by omega) ?_
      obtain ⟨t1, t2, t3⟩ := ty
      have lM : (M ++ [(y.2.length, z.2.length)]).length = M.length + 1 := by simp
      refine ⟨by omega, by rw [lM, lbM_l], fun q hq => ?_⟩
      rw [lM] at hq
      by_cases w : q = M.length
      · subst w
        rw [lbM_l, lbM_ap (Nat.le_refl _), ← t2, show (M ++ [(y.2.length, z.2.length)]).getD M.length (0, 0) = (y.2.length, z.2.length) from by simp [List.getD]]
        exact ⟨Nat.le_refl _, a1, a2⟩
      · have hq' : q < M.length := by omega
        obtain ⟨b1, ⟨T1, b2⟩, ⟨T2, b3⟩⟩ := t3 q hq'
        rw [lbM_ap (by omega), lbM_ap (by omega), getD_ap hq']
        have := b3.2.2.1
        exact ⟨by omega, ⟨T1, b2.mv (fun i hi => a3 i (by omega))⟩, ⟨T2, b3.mv (fun i hi => a3 i (by omega))⟩⟩
end
/-- the law of these orders and marks -/
def lwT (C M : List (Nat × Nat)) : aLw := (M.length, cA C, lbM M, fun q => (M.getD q (0, 0)).1)
theorem lw_ty {t : Nat → Nat} {n : Nat} (hn : n ≤ 160) (h : (lwE t n).1 = 0) : tyM (lwZ t n).1.2 (lwZ t n).2.1 := by
  have q := lw_len h
  obtain ⟨Z, eZ⟩ : ∃ Z, Z = lwZ t n := ⟨_, rfl⟩
  rw [← eZ] at q ⊢
  have hz : Z = clS t n 12 ((0, 0), []) [] true := by rw [eZ]; unfold lwZ; rfl
  exact ty_cl hn 12 0 [] [] true Z (by show 0 + 12 ≤ 12; omega) hz q.1 (Nat.le_refl _) ⟨by show 0 ≤ 12; omega, rfl, fun q hq => absurd hq (by simp)⟩
theorem tyM.ok {C M : List (Nat × Nat)} (h : tyM C M) : okLw (lwT C M) := ⟨h.1, fun q hq => ⟨(h.2.2 q hq).2.1, (h.2.2 q hq).2.2⟩⟩
theorem tyM.M {h : mH} {C M : List (Nat × Nat)} (ty : tyM C M) (D : lwD h C M) : lwM h (lwT C M) := by
  obtain ⟨d1, d2, d3⟩ := D
  refine ⟨d1, fun q hq => ⟨⟨(d3 q hq).1, (d3 q hq).2.1, ?_⟩, fun p hp => d2 p ?_⟩⟩
  · rw [(d3 q hq).2.2]
    show nI (M.getD q (0, 0)).2 = nI (lbM M (q + 1))
    unfold lbM
    rw [if_neg (by omega)]
    rfl
  · have hp' : p < lbM M (q + 1) := hp
    have := (ty.2.2 q hq).1
    omega
