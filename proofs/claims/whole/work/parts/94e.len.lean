/-! no fault: no more orders than signs -/
theorem pl_ex {t : Nat → Nat} {n c : Nat} {s : aTs} (h : (exS t n c s).1 = 0) : (exS t n c s).2 = s.2 + 1 ∧ s.1 = 0 := by
  refine ⟨?_, ex_0 h⟩
  unfold exS at h ⊢
  by_cases z : sgS t n s = c
  · rw [if_pos z]; rfl
  · rw [if_neg z] at h
    exact (ad_st h (by omega)).elim
theorem pl_nm {t : Nat → Nat} {n : Nat} : ∀ f s v, s.2 ≤ (nmS t n f s v).1.2
  | 0, s, v => Nat.le_refl _
  | f + 1, s, v => by
    unfold nmS
    split
    · exact Nat.le_trans (Nat.le_succ _) (pl_nm f (adS s) _)
    · exact Nat.le_refl _
theorem pl_nr {t : Nat → Nat} {n : Nat} {s : aTs} (hd : isDg (sgS t n s) = true) : s.2 + 1 ≤ (nrS t n s).1.2 := by
  have h5 : s.2 + 1 ≤ (nmS t n 5 s 0).1.2 := by
    unfold nmS
    rw [if_pos hd]
    exact pl_nm 4 (adS s) _
  unfold nrS
  show s.2 + 1 ≤ (if _ then stS 2 (nmS t n 5 s 0).1 else (nmS t n 5 s 0).1).2
  split
  · unfold stS; split <;> exact h5
  · exact h5
/-- a reader that puts no more orders than it takes signs -/
def plR (S : aTs → aTr) : Prop := ∀ s, (S s).1.1 = 0 → (S s).2.length + s.2 ≤ (S s).1.2
theorem pl_fc {t : Nat → Nat} {n : Nat} {S0 : Option (aTs → aTr)} (hS : ∀ S, S0 = some S → plR S) : plR (fcS0 t n S0) := by
  intro s
  unfold fcS0
  split
  · cases S0 with
    | none => intro h; exact (ad_st h (by omega)).elim
    | some S =>
      intro h
      obtain ⟨p1, p2⟩ := pl_ex h
      have := hS S rfl (adS s) p2
      show (S (adS s)).2.length + s.2 ≤ (exS t n 93 (S (adS s)).1).2
      have e : (adS s).2 = s.2 + 1 := rfl
      omega
  · split
    · intro _; show 1 + s.2 ≤ s.2 + 1; omega
    · split
      · rename_i hd
        intro _
        have := pl_nr hd
        show 1 + s.2 ≤ _
        omega
      · intro h; exact (ad_st h (by omega)).elim
theorem pl_tk {t : Nat → Nat} {n a1 a2 a3 k : Nat} {s : aTs} : (tkS t n a1 a2 a3 k s).2.2 = s.2 + (wtL (tkS t n a1 a2 a3 k s).1).length ∧ (tkS t n a1 a2 a3 k s).2.1 = s.1 := by
  unfold tkS
  cases h : toO (sgS t n s) a1 a2 a3 k with
  | none => exact ⟨rfl, rfl⟩
  | some m => exact ⟨rfl, rfl⟩
theorem pl_tm {t : Nat → Nat} {n : Nat} {fc : aTs → aTr} (hf : plR fc) (fk : ∀ s : aTs, s.1 ≠ 0 → (fc s).1.1 ≠ 0) : ∀ f s o, (tmS t n fc f s o).1.1 = 0 → (tmS t n fc f s o).2.length + s.2 ≤ (tmS t n fc f s o).1.2 + (wtL o).length
  | 0, s, o, h => by show 0 + s.2 ≤ s.2 + _; omega
  | f + 1, s, none, h => by show 0 + s.2 ≤ s.2 + _; omega
  | f + 1, s, some m, h => by
    rw [tm_s] at h ⊢
    obtain ⟨k1, k2⟩ := pl_tk (t := t) (n := n) (a1 := 42) (a2 := 47) (a3 := 37) (k := 4) (s := (fc s).1)
    have ih := pl_tm hf fk f _ _ h
    have h2 : (tkS t n 42 47 37 4 (fc s).1).2.1 = 0 := Classical.byContradiction (fun u => fk_tm fk f _ _ u h)
    have h1 := hf s (by rw [← k2]; exact h2)
    rw [k1] at ih
    have lw : (wtL (some m)).length = 1 := rfl
    rw [lw]
    simp only [List.length_append, List.length_cons]
    omega
theorem pl_sm {t : Nat → Nat} {n : Nat} {fc : aTs → aTr} (hf : plR fc) (fk : ∀ s : aTs, s.1 ≠ 0 → (fc s).1.1 ≠ 0) : ∀ f s w m, (smS t n fc f s w m).1.1 = 0 → (smS t n fc f s w m).2.length + s.2 ≤ (smS t n fc f s w m).1.2 + (wtL w).length
  | 0, s, w, m, h => by show 0 + s.2 ≤ s.2 + _; omega
  | f + 1, s, w, false, h => by show 0 + s.2 ≤ s.2 + _; omega
  | f + 1, s, w, true, h => by
    rw [sm_st] at h ⊢
    obtain ⟨k1, k2⟩ := pl_tk (t := t) (n := n) (a1 := 42) (a2 := 47) (a3 := 37) (k := 4) (s := (fc s).1)
    obtain ⟨j1, j2⟩ := pl_tk (t := t) (n := n) (a1 := 43) (a2 := 45) (a3 := 45) (k := 2) (s := (tmQ t n fc s).1)
    have ih := pl_sm hf fk f _ _ _ h
    have h3 : (smK t n fc s).2.1 = 0 := Classical.byContradiction (fun u => fk_sm fk f _ _ _ u h)
    have h2 : (tmQ t n fc s).1.1 = 0 := by rw [← j2]; exact h3
    have h1 : (tkS t n 42 47 37 4 (fc s).1).2.1 = 0 := Classical.byContradiction (fun u => fk_tm fk 160 _ _ u h2)
    have q1 := hf s (by rw [← k2]; exact h1)
    have q2 := pl_tm hf fk 160 (tkS t n 42 47 37 4 (fc s).1).2 (tkS t n 42 47 37 4 (fc s).1).1 h2
    have q2' : (tmQ t n fc s).2.length + (tkS t n 42 47 37 4 (fc s).1).2.2 ≤ (tmQ t n fc s).1.2 + (wtL (tkS t n 42 47 37 4 (fc s).1).1).length := q2
    have j1' : (smK t n fc s).2.2 = (tmQ t n fc s).1.2 + (wtL (smK t n fc s).1).length := j1
    rw [k1] at q2'
    rw [j1'] at ih
    simp only [List.length_append]
    omega
theorem pl_sum {t : Nat → Nat} {n : Nat} : ∀ e, plR (sumS t n e)
  | 0 => fun s h => by
    have := pl_sm (t := t) (n := n) (pl_fc (S0 := none) (fun S z => by cases z)) (fun s h => fk_fc (fun S z => by cases z) h) 160 s none true h
    exact this
  | e + 1 => fun s h => by
    have := pl_sm (t := t) (n := n) (pl_fc (S0 := some (sumS t n e)) (fun S z => by cases z; exact pl_sum e)) (fun s h => fk_fc (fun S z s h => by cases z; exact fk_sum e s h) h) 160 s none true h
    exact this
/-- and so for conditions, with k to spare -/
def plQ (P : aTr → aTr) : Prop := ∀ k (x : aTr), (P x).1.1 = 0 → x.2.length + k ≤ x.1.2 → (P x).2.length + k ≤ (P x).1.2
theorem pl_cm {t : Nat → Nat} {n e : Nat} : plQ (cmS t n (sumS t n e)) := by
  intro k x h hb
  obtain ⟨r, er⟩ : ∃ r, r = sumS t n e x.1 := ⟨_, rfl⟩
  obtain ⟨q, eq⟩ : ∃ q, q = tkS t n 60 62 61 7 r.1 := ⟨_, rfl⟩
  obtain ⟨r2, er2⟩ : ∃ r2, r2 = sumS t n e (if q.1.isSome then q.2 else stS 1 q.2) := ⟨_, rfl⟩
  have ec : cmS t n (sumS t n e) x = (r2.1, x.2 ++ r.2 ++ r2.2 ++ wtL q.1) := by
    rw [er2, eq, er]; rfl
  rw [ec] at h ⊢
  have h' : r2.1.1 = 0 := h
  obtain ⟨k1, k2⟩ := pl_tk (t := t) (n := n) (a1 := 60) (a2 := 62) (a3 := 61) (k := 7) (s := r.1)
  rw [← eq] at k1 k2
  have h3 : (if q.1.isSome then q.2 else stS 1 q.2).1 = 0 := Classical.byContradiction (fun u => fk_sum e _ u (by rw [← er2]; exact h'))
  have p2 := pl_sum (t := t) (n := n) e (if q.1.isSome then q.2 else stS 1 q.2) (by rw [← er2]; exact h')
  rw [← er2] at p2
  show (x.2 ++ r.2 ++ r2.2 ++ wtL q.1).length + k ≤ r2.1.2
  simp only [List.length_append]
  cases hq : q.1 with
  | none =>
    rw [hq] at h3
    exact (ad_st h3 (by omega)).elim
  | some m =>
    rw [hq] at h3 p2 k1
    have h4 : q.2.1 = 0 := h3
    have p2' : r2.2.length + q.2.2 ≤ r2.1.2 := p2
    have p1 := pl_sum (t := t) (n := n) e x.1 (by rw [← er, ← k2]; exact h4)
    rw [← er] at p1
    have lw : (wtL (some m)).length = 1 := rfl
    rw [lw] at k1 ⊢
    omega
theorem pl_cd {t : Nat → Nat} {n : Nat} {pc : aTr → aTr} (hp : plQ pc) (fk : ∀ x : aTr, x.1.1 ≠ 0 → (pc x).1.1 ≠ 0) : ∀ f a c m, plQ (fun x => cdS t n pc f x a c m)
  | 0, a, c, m => fun k x h hb => hb
  | f + 1, a, c, false => fun k x h hb => hb
  | f + 1, a, c, true => fun k x h hb => by
    have h' : (cdS t n pc (f + 1) x a c true).1.1 = 0 := h
    show (cdS t n pc (f + 1) x a c true).2.length + k ≤ (cdS t n pc (f + 1) x a c true).1.2
    rw [cd_st] at h' ⊢
    by_cases z1 : sgS t n (pc x).1 = 38
    · rw [if_pos z1] at h' ⊢
      have p0 : (pc x).1.1 = 0 := Classical.byContradiction (fun u => fk_cd fk f (adS (pc x).1, aiC (pc x).2 c ++ [(11, 0)]) a (some (aiC (pc x).2 c).length) true (fk_ad u) h')
      have p1 := hp k x p0 hb
      refine pl_cd hp fk f a (some (aiC (pc x).2 c).length) true k (adS (pc x).1, aiC (pc x).2 c ++ [(11, 0)]) h' ?_
      show (aiC (pc x).2 c ++ [(11, 0)]).length + k ≤ (pc x).1.2 + 1
      rw [List.length_append, aiC_l]
      show (pc x).2.length + 1 + k ≤ (pc x).1.2 + 1
      omega
    · rw [if_neg z1] at h' ⊢
      by_cases z2 : sgS t n (pc x).1 = 124
      · rw [if_pos z2] at h' ⊢
        have p0 : (pc x).1.1 = 0 := Classical.byContradiction (fun u => fk_cd fk f (adS (pc x).1, aiC (aiC (pc x).2 c) a ++ [(12, 0)]) (some (aiC (aiC (pc x).2 c) a).length) none true (fk_ad u) h')
        have p1 := hp k x p0 hb
        refine pl_cd hp fk f (some (aiC (aiC (pc x).2 c) a).length) none true k (adS (pc x).1, aiC (aiC (pc x).2 c) a ++ [(12, 0)]) h' ?_
        show (aiC (aiC (pc x).2 c) a ++ [(12, 0)]).length + k ≤ (pc x).1.2 + 1
        rw [List.length_append, aiC_l, aiC_l]
        show (pc x).2.length + 1 + k ≤ (pc x).1.2 + 1
        omega
      · rw [if_neg z2] at h' ⊢
        have p0 : (pc x).1.1 = 0 := Classical.byContradiction (fun u => fk_cd fk f ((pc x).1, aiC (aiC (pc x).2 c) a) none none false u h')
        have p1 := hp k x p0 hb
        refine pl_cd hp fk f none none false k ((pc x).1, aiC (aiC (pc x).2 c) a) h' ?_
        show (aiC (aiC (pc x).2 c) a).length + k ≤ (pc x).1.2
        rw [aiC_l, aiC_l]
        exact p1
theorem pl_pc {t : Nat → Nat} {n : Nat} : ∀ e, plQ (pcS t n e)
  | 0 => fun k x h hb => by
    unfold pcS at h ⊢
    by_cases z1 : sgS t n x.1 = 33
    · rw [if_pos z1] at h; exact (ad_st h (by omega)).elim
    · rw [if_neg z1] at h ⊢
      by_cases z2 : sgS t n x.1 = 40
      · rw [if_pos z2] at h; exact (ad_st h (by omega)).elim
      · rw [if_neg z2] at h ⊢
        exact pl_cm k x h hb
  | e + 1 => fun k x h hb => by
    unfold pcS at h ⊢
    by_cases z1 : sgS t n x.1 = 33
    · rw [if_pos z1] at h ⊢
      have := pl_pc (t := t) (n := n) e (k + 1) (adS x.1, x.2) h (by show x.2.length + (k + 1) ≤ x.1.2 + 1; omega)
      show ((pcS t n e (adS x.1, x.2)).2 ++ [(10, 0)]).length + k ≤ (pcS t n e (adS x.1, x.2)).1.2
      rw [List.length_append]
      show (pcS t n e (adS x.1, x.2)).2.length + 1 + k ≤ (pcS t n e (adS x.1, x.2)).1.2
      omega
    · rw [if_neg z1] at h ⊢
      by_cases z2 : sgS t n x.1 = 40
      · rw [if_pos z2] at h ⊢
        obtain ⟨p1, p2⟩ := pl_ex h
        have := pl_cd (t := t) (n := n) (pl_pc e) (fun x z => fk_pc e x z) 160 none none true k (adS x.1, x.2) p2 (by show x.2.length + k ≤ x.1.2 + 1; omega)
        have this' : (cdS t n (pcS t n e) 160 (adS x.1, x.2) none none true).2.length + k ≤ (cdS t n (pcS t n e) 160 (adS x.1, x.2) none none true).1.2 := this
        show (cdS t n (pcS t n e) 160 (adS x.1, x.2) none none true).2.length + k ≤ (exS t n 41 (cdS t n (pcS t n e) 160 (adS x.1, x.2) none none true).1).2
        omega
      · rw [if_neg z2] at h ⊢
        exact pl_cm k x h hb
