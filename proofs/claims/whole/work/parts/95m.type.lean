/-! the orders of a law are typed: sums -/
/-- how many numbers lie there after these orders -/
def tyR : Nat → List (Nat × Nat) → Option Nat
  | a, [] => some a
  | a, x :: c => if x.1 ≤ 1 ∧ a < 20 ∧ x.2 < 100000 ∧ (x.1 = 1 → x.2 < 9) then tyR (a + 1) c else if 2 ≤ x.1 ∧ x.1 ≤ 6 ∧ 2 ≤ a ∧ a ≤ 20 ∧ x.2 = 0 then tyR (a - 1) c else none
theorem tyR_ap : ∀ (c e : List (Nat × Nat)) (a m : Nat), tyR a c = some m → tyR a (c ++ e) = tyR m e
  | [], e, a, m, h => by cases h; rfl
  | x :: c, e, a, m, h => by
    show tyR a (x :: (c ++ e)) = tyR m e
    unfold tyR at h
    conv => lhs; unfold tyR
    by_cases h1 : x.1 ≤ 1 ∧ a < 20 ∧ x.2 < 100000 ∧ (x.1 = 1 → x.2 < 9)
    · rw [if_pos h1] at h ⊢; exact tyR_ap c e (a + 1) m h
    · rw [if_neg h1] at h ⊢
      by_cases h2 : 2 ≤ x.1 ∧ x.1 ≤ 6 ∧ 2 ≤ a ∧ a ≤ 20 ∧ x.2 = 0
      · rw [if_pos h2] at h ⊢; exact tyR_ap c e (a - 1) m h
      · rw [if_neg h2] at h; cases h
theorem tyR_1 {a : Nat} {x : Nat × Nat} (h : x.1 ≤ 1) (ha : a < 20) (h2 : x.2 < 100000) (h3 : x.1 = 1 → x.2 < 9) : tyR a [x] = some (a + 1) := by
  unfold tyR
  rw [if_pos ⟨h, ha, h2, h3⟩]; rfl
theorem tyR_2 {a : Nat} {m : Nat} (h : 2 ≤ m ∧ m ≤ 6) (ha : 2 ≤ a) (h2 : a ≤ 20) : tyR a [(m, 0)] = some (a - 1) := by
  unfold tyR
  rw [if_neg (fun u => by have u1 : m ≤ 1 := u.1; omega), if_pos ⟨h.1, h.2, ha, h2, rfl⟩]; rfl
theorem nm_v {t : Nat → Nat} {n : Nat} : ∀ f s v, (nmS t n f s v).2 < (v + 1) * 10 ^ f
  | 0, s, v => by show v < (v + 1) * 1; omega
  | f + 1, s, v => by
    unfold nmS
    by_cases z : isDg (sgS t n s) = true
    · rw [if_pos z]
      have u : 48 ≤ sgS t n s ∧ sgS t n s ≤ 57 := of_decide_eq_true z
      have := nm_v (t := t) (n := n) f (adS s) (10 * v + (sgS t n s - 48))
      refine Nat.lt_of_lt_of_le this ?_
      rw [Nat.pow_succ, Nat.mul_comm (10 ^ f) 10, ← Nat.mul_assoc]
      exact Nat.mul_le_mul_right _ (by omega)
    · rw [if_neg z]
      show v < (v + 1) * 10 ^ (f + 1)
      have : 0 < 10 ^ (f + 1) := Nat.pos_of_ne_zero (by simp)
      exact Nat.lt_of_lt_of_le (Nat.lt_succ_self v) (Nat.le_mul_of_pos_right _ this)
def tyF (fc : aTs → aTr) (Bd : Nat) : Prop := ∀ s a, a ≤ Bd → (fc s).1.1 = 0 → tyR a (fc s).2 = some (a + 1)
section
variable {t : Nat → Nat} {n : Nat}
theorem ty_fc {S0 : Option (aTs → aTr)} {Bd : Nat} (hB : Bd ≤ 19) (hS : ∀ S, S0 = some S → tyF S Bd) : tyF (fcS0 t n S0) Bd := by
  intro s a ha
  unfold fcS0
  split
  · cases S0 with
    | none => intro h; exact (ad_st h (by omega)).elim
    | some S =>
      intro h
      exact hS S rfl (adS s) a ha (pl_ex h).2
  · split
    · rename_i h9
      intro _
      exact tyR_1 (x := (1, leT (sgS t n s))) (Nat.le_refl _) (by omega) (by show leT _ < 100000; omega) (fun _ => h9)
    · split
      · intro _
        have := nm_v (t := t) (n := n) 5 s 0
        exact tyR_1 (x := (0, (nmS t n 5 s 0).2)) (Nat.zero_le _) (by omega) (by show (nmS t n 5 s 0).2 < 100000; omega) (fun u => absurd u (by show ¬ (0 : Nat) = 1; omega))
      · intro h; exact (ad_st h (by omega)).elim
theorem ty_tm {fc : aTs → aTr} {Bd : Nat} (hB : Bd ≤ 19) (hf : tyF fc Bd) (fk : ∀ s : aTs, s.1 ≠ 0 → (fc s).1.1 ≠ 0) : ∀ f s o a, (tmS t n fc f s o).1.1 = 0 → tOk o → 1 ≤ a → a ≤ Bd → tyR a (tmS t n fc f s o).2 = some a
  | 0, s, o, a, h, _, _, _ => rfl
  | f + 1, s, none, a, h, _, _, _ => rfl
  | f + 1, s, some m, a, h, ho, h1, h2 => by
    rw [tm_s] at h ⊢
    obtain ⟨k, ek⟩ : ∃ k, k = tkS t n 42 47 37 4 (fc s).1 := ⟨_, rfl⟩
    obtain ⟨k1, k2⟩ := pl_tk (t := t) (n := n) (a1 := 42) (a2 := 47) (a3 := 37) (k := 4) (s := (fc s).1)
    have ok : tOk k.1 := fun m' e' => toO_t (m := m') (c := sgS t n (fc s).1) (by rw [ek] at e'; exact e') m' rfl
    rw [← ek] at h ⊢ k2
    have h' : (tmS t n fc f k.2 k.1).1.1 = 0 := h
    have ih := ty_tm hB hf fk f k.2 k.1 a h' ok h1 h2
    have hk : k.2.1 = 0 := Classical.byContradiction (fun u => fk_tm fk f _ _ u h')
    have hfc := hf s a h2 (by rw [← k2]; exact hk)
    have hm := ho m rfl
    show tyR a ((fc s).2 ++ ((m, 0) :: (tmS t n fc f k.2 k.1).2)) = some a
    rw [tyR_ap _ _ _ _ hfc, show ((m, 0) :: (tmS t n fc f k.2 k.1).2) = [(m, 0)] ++ (tmS t n fc f k.2 k.1).2 from rfl, tyR_ap _ _ _ _ (tyR_2 (a := a + 1) (m := m) (by omega) (by omega) (by omega))]
    exact ih
theorem ty_sm {fc : aTs → aTr} {Bd : Nat} (hB : Bd ≤ 19) (hf : tyF fc Bd) (fk : ∀ s : aTs, s.1 ≠ 0 → (fc s).1.1 ≠ 0) : ∀ f s w a, (smS t n fc (f + 1) s w true).1.1 = 0 → pOk w → (w = none ∨ 1 ≤ a) → a + 1 - (wtL w).length + 1 ≤ Bd → a + 1 ≤ Bd → tyR a (smS t n fc (f + 1) s w true).2 = some (a + 1 - (wtL w).length) := by
  intro f
  induction f with
  | zero =>
    intro s w a h hw hwa hb1 hb2
    rw [sm_st] at h ⊢
    have h0 : (smK t n fc s).2.1 = 0 := h
    obtain ⟨j1, j2⟩ := pl_tk (t := t) (n := n) (a1 := 43) (a2 := 45) (a3 := 45) (k := 2) (s := (tmQ t n fc s).1)
    have h2 : (tmQ t n fc s).1.1 = 0 := by rw [← j2]; exact h0
    obtain ⟨k1, k2⟩ := pl_tk (t := t) (n := n) (a1 := 42) (a2 := 47) (a3 := 37) (k := 4) (s := (fc s).1)
    have h1 : (tkS t n 42 47 37 4 (fc s).1).2.1 = 0 := Classical.byContradiction (fun u => fk_tm fk 160 _ _ u h2)
    have q1 := hf s a (by omega) (by rw [← k2]; exact h1)
    have q2 := ty_tm (t := t) (n := n) hB hf fk 160 (tkS t n 42 47 37 4 (fc s).1).2 (tkS t n 42 47 37 4 (fc s).1).1 (a + 1) h2 (fun m' e' => toO_t (m := m') (c := sgS t n (fc s).1) e' m' rfl) (by omega) (by omega)
    have q2' : tyR (a + 1) (tmQ t n fc s).2 = some (a + 1) := q2
    show tyR a ((fc s).2 ++ (tmQ t n fc s).2 ++ wtL w ++ []) = _
    rw [List.append_nil, List.append_assoc, tyR_ap _ _ _ _ q1, tyR_ap _ _ _ _ q2']
    cases w with
    | none => rfl
    | some m =>
      have := hw m rfl
      exact tyR_2 (by omega) (by have : 1 ≤ a := by rcases hwa with u | u; cases u; exact u
                                 omega) (by omega)
  | succ f ih =>
    intro s w a h hw hwa hb1 hb2
    rw [sm_st] at h ⊢
    obtain ⟨k, ek⟩ : ∃ k, k = smK t n fc s := ⟨_, rfl⟩
    obtain ⟨j1, j2⟩ := pl_tk (t := t) (n := n) (a1 := 43) (a2 := 45) (a3 := 45) (k := 2) (s := (tmQ t n fc s).1)
    have j2' : k.2.1 = (tmQ t n fc s).1.1 := by rw [ek]; exact j2
    have okp : ∀ m, k.1 = some m → pOk (some m) := fun m e' => toO_p (c := sgS t n (tmQ t n fc s).1) (by rw [ek] at e'; exact e')
    rw [← ek] at h ⊢
    have h' : (smS t n fc (f + 1) k.2 k.1 k.1.isSome).1.1 = 0 := h
    have hk : k.2.1 = 0 := Classical.byContradiction (fun u => fk_sm fk (f + 1) _ _ _ u h')
    have h2 : (tmQ t n fc s).1.1 = 0 := by rw [← j2']; exact hk
    obtain ⟨k1, k2⟩ := pl_tk (t := t) (n := n) (a1 := 42) (a2 := 47) (a3 := 37) (k := 4) (s := (fc s).1)
    have h1 : (tkS t n 42 47 37 4 (fc s).1).2.1 = 0 := Classical.byContradiction (fun u => fk_tm fk 160 _ _ u h2)
    have q1 := hf s a (by omega) (by rw [← k2]; exact h1)
    have q2 := ty_tm (t := t) (n := n) hB hf fk 160 (tkS t n 42 47 37 4 (fc s).1).2 (tkS t n 42 47 37 4 (fc s).1).1 (a + 1) h2 (fun m' e' => toO_t (m := m') (c := sgS t n (fc s).1) e' m' rfl) (by omega) (by omega)
    have q2' : tyR (a + 1) (tmQ t n fc s).2 = some (a + 1) := q2
    have q3 : tyR (a + 1) (wtL w) = some (a + 1 - (wtL w).length) := by
      cases w with
      | none => rfl
      | some m =>
        have := hw m rfl
        exact tyR_2 (by omega) (by have : 1 ≤ a := by rcases hwa with u | u; cases u; exact u
                                   omega) (by omega)
    have a1 : 1 ≤ a + 1 - (wtL w).length := by
      cases w with
      | none => show 1 ≤ a + 1 - 0; omega
      | some m =>
        have : 1 ≤ a := by rcases hwa with u | u; cases u; exact u
        show 1 ≤ a + 1 - 1; omega
    show tyR a ((fc s).2 ++ (tmQ t n fc s).2 ++ wtL w ++ (smS t n fc (f + 1) k.2 k.1 k.1.isSome).2) = _
    rw [List.append_assoc, List.append_assoc, tyR_ap _ _ _ _ q1, tyR_ap _ _ _ _ q2', tyR_ap _ _ _ _ q3]
    cases hk1 : k.1 with
    | none => show tyR _ (smS t n fc (f + 1) k.2 none false).2 = _; rw [sm_f]; rfl
    | some m =>
      rw [hk1] at h'
      have := ih k.2 (some m) (a + 1 - (wtL w).length) h' (okp m hk1) (Or.inr a1) (by show a + 1 - (wtL w).length + 1 - 1 + 1 ≤ Bd; omega) (by omega)
      rw [show a + 1 - (wtL w).length + 1 - (wtL (some m)).length = a + 1 - (wtL w).length from by show _ + 1 - 1 = _; omega] at this
      exact this
theorem tyF.mo {fc : aTs → aTr} {B1 B2 : Nat} (h : tyF fc B1) (hb : B2 ≤ B1) : tyF fc B2 := fun s a ha => h s a (by omega)
theorem fk_fac : ∀ e, ∀ s : aTs, s.1 ≠ 0 → (facS t n e s).1.1 ≠ 0
  | 0 => fun s h => fk_fc (fun S z => by cases z) h
  | e + 1 => fun s h => fk_fc (fun S z s h => by cases z; exact fk_sum e s h) h
theorem ty_sum : ∀ e, e ≤ 6 → tyF (sumS t n e) (17 - 2 * e)
  | 0, _ => by
    intro s a ha h
    rw [sumS_eq] at h ⊢
    have hf : tyF (facS t n 0) 19 := ty_fc (S0 := none) (by omega) (fun S z => by cases z)
    exact ty_sm (t := t) (n := n) (by omega) hf (fk_fac 0) 159 s none a h pOk_n (Or.inl rfl) (by show a + 1 - 0 + 1 ≤ 19; omega) (by omega)
  | e + 1, he => by
    intro s a ha h
    have ih := ty_sum e (by omega)
    rw [sumS_eq] at h ⊢
    have hf : tyF (facS t n (e + 1)) (17 - 2 * e) := ty_fc (S0 := some (sumS t n e)) (by omega) (fun S z => by cases z; exact ih)
    exact ty_sm (t := t) (n := n) (by omega) hf (fk_fac (e + 1)) 159 s none a h pOk_n (Or.inl rfl) (by show a + 1 - 0 + 1 ≤ _; omega) (by omega)
end
