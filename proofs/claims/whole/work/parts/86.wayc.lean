/-! wayIn (class), its answer -/
noncomputable def swK (W : aW) (k : Nat) : Bool := swB W (k % 32) (k / 32)
/-- the answer v of wayIn -/
def isWy (W : aW) (a g : Nat) (v r : Int32) : Prop :=
  (¬ (swK W a = true ∧ swK W g = true) ∧ r = -2) ∨
  ((swK W a = true ∧ swK W g = true) ∧ ((a = g ∧ r = if v = -1 ∨ v = 100 then 0 else -1) ∨
    (a ≠ g ∧ (∀ q t s, q < 4 → ¬ wy (swK W) g s t a q) ∧ r = -2) ∨
    (a ≠ g ∧ ∃ q t s, fsP (swK W) g a q t s ∧ ((v = -1 ∧ r = nI t) ∨ (v = 100 ∧ r = nI s) ∨ (∃ n, n < 100 ∧ v = nI n ∧ ((s ≤ n ∧ r = -1) ∨ (n < s ∧ ∃ k q' t' s', wkP (swK W) g a q t s n k q' t' s' ∧ r = nI q')))))))
theorem n100 {n : Nat} (h : n < 100) : ¬ nI n = (100 : Int32) := fun z => by
  have := nI_bk (b := 100) (by omega) (by omega) z
  omega
theorem isWy_one {W : aW} {a g : Nat} {v r r' : Int32} (h1 : isWy W a g v r) (h2 : isWy W a g v r') : r = r' := by
  have m100 : ¬ (-1 : Int32) = 100 := by decide
  rcases h1 with ⟨a1, e1⟩ | ⟨a1, h1⟩
  · rcases h2 with ⟨a2, e2⟩ | ⟨a2, h2⟩
    · rw [e1, e2]
    · exact (a1 a2).elim
  · rcases h2 with ⟨a2, e2⟩ | ⟨a2, h2⟩
    · exact (a2 a1).elim
    · rcases h1 with ⟨b1, e1⟩ | ⟨b1, c1, e1⟩ | ⟨b1, q, t, s, fs, c1⟩
      · rcases h2 with ⟨b2, e2⟩ | ⟨b2, c2, e2⟩ | ⟨b2, _⟩
        · rw [e1, e2]
        · exact (b2 b1).elim
        · exact (b2 b1).elim
      · rcases h2 with ⟨b2, e2⟩ | ⟨b2, c2, e2⟩ | ⟨b2, q', t', s', fs', _⟩
        · exact (b1 b2).elim
        · rw [e1, e2]
        · exact (c1 q' t' s' fs'.1 fs'.2.1.1).elim
      · rcases h2 with ⟨b2, e2⟩ | ⟨b2, c2, e2⟩ | ⟨b2, q', t', s', fs', c2⟩
        · exact (b1 b2).elim
        · exact (c2 q t s fs.1 fs.2.1.1).elim
        · obtain ⟨e1, e2, e3⟩ := fsP_one fs fs'
          subst e1; subst e2; subst e3
          rcases c1 with ⟨v1, r1⟩ | ⟨v1, r1⟩ | ⟨n1, hn1, v1, r1⟩
          · rcases c2 with ⟨v2, r2⟩ | ⟨v2, r2⟩ | ⟨n2, hn2, v2, r2⟩
            · rw [r1, r2]
            · rw [v1] at v2; exact (m100 v2).elim
            · rw [v1] at v2; exact (nI_nmb (by omega) v2.symm).elim
          · rcases c2 with ⟨v2, r2⟩ | ⟨v2, r2⟩ | ⟨n2, hn2, v2, r2⟩
            · rw [v2] at v1; exact (m100 v1).elim
            · rw [r1, r2]
            · rw [v1] at v2; exact (n100 hn2 v2.symm).elim
          · rcases c2 with ⟨v2, r2⟩ | ⟨v2, r2⟩ | ⟨n2, hn2, v2, r2⟩
            · rw [v2] at v1; exact (nI_nmb (by omega) v1.symm).elim
            · rw [v2] at v1; exact (n100 hn1 v1.symm).elim
            · rw [v1] at v2
              have en := nI_bk (by omega) (by omega) v2
              subst en
              rcases r1 with ⟨l1, r1⟩ | ⟨l1, k, q1, t1, s1, w1, r1⟩
              · rcases r2 with ⟨l2, r2⟩ | ⟨l2, _⟩
                · rw [r1, r2]
                · omega
              · rcases r2 with ⟨l2, r2⟩ | ⟨l2, k', q2, t2, s2, w2, r2⟩
                · omega
                · obtain ⟨-, eq, -⟩ := wkP_one _ _ _ _ _ _ _ _ _ w1 w2
                  rw [r1, r2, eq]
/-- the way's memory -/
def wyC (h : mH) (W : aW) : Prop := (mI h 38 7 = mI h 8 7 → ∃ a g, a < 1024 ∧ g < 1024 ∧ mI h 38 5 = nI a ∧ mI h 38 6 = nI g ∧ seR h (swK W) g a) ∧ stB (mI h 38 7) (mI h 8 7)
theorem wyC.fr {A : Nat → Nat → Prop} {h h' : mH} {W : aW} (f : mFr2 A h h') (h0 : ¬ A 8 7) (h1 : ∀ k, ¬ A 38 k) (h2 : ∀ k, ¬ A 40 k) (s : wyC h W) : wyC h' W := by
  refine ⟨fun z => ?_, by rw [f.2 _ _ h0, f.2 _ _ (h1 7)]; exact s.2⟩
  rw [f.2 _ _ h0, f.2 _ _ (h1 7)] at z
  obtain ⟨a, g, s1, s2, s3, s4, s5⟩ := s.1 z
  exact ⟨a, g, s1, s2, by rw [f.2 _ _ (h1 5)]; exact s3, by rw [f.2 _ _ (h1 6)]; exact s4, s5.fr f h1 h2⟩
section
variable {G : mG} {d : Nat} {b : Nat × Nat} {h : mH} {Q : Option mV → mH → Prop}
theorem m1_ex {v : Int32} (e : ¬ f_X11_within v (-1) 100 = 0) : v = -1 ∨ v = 100 ∨ ∃ n, n < 100 ∧ v = nI n := by
  have e2 := Classical.byContradiction (fun t => e (f_wi.mpr t))
  have a1 := Int32.le_iff_toInt_le.mp e2.1
  have a2 := Int32.le_iff_toInt_le.mp e2.2
  have b1 : (-1 : Int32).toInt = -1 := rfl
  have b2 : (100 : Int32).toInt = 100 := rfl
  rw [b1] at a1
  rw [b2] at a2
  by_cases z : v.toInt = -1
  · exact Or.inl (by rw [ii_of v, z]; rfl)
  · obtain ⟨n, hn, ev⟩ := nI_ex (x := v) (n := 101) (by omega) (by omega) (by omega)
    by_cases u : n = 100
    · rw [u] at ev; exact Or.inr (Or.inl ev)
    · exact Or.inr (Or.inr ⟨n, by omega, ev⟩)
set_option maxHeartbeats 1000000 in
theorem c11_wayIn (v1 v2 v3 v4 v5 : Int32) {W : aW} {I : Nat → Nat} (hS : mSk h) (st : cSt h W I) (sc : suC h W I) (wc : wyC h W) (K1 : ¬ (¬ f_X11_inGrid v1 v2 = 0 ∧ ¬ f_X11_inGrid v3 v4 = 0 ∧ ¬ f_X11_within v5 (-1) 100 = 0) → Q (some (.inl (-1))) h)
    (K2 : ∀ x y x' y', x < 32 → y < 32 → x' < 32 → y' < 32 → v1 = nI x → v2 = nI y → v3 = nI x' → v4 = nI y' → ¬ f_X11_within v5 (-1) 100 = 0 → ∀ h' r, mFr2 (fun a k => aSu a k ∨ aWy a k) h h' → cSt h' W I → flK h h' W I → suC h' W I → wyC h' W → isWy W (32 * y + x) (32 * y' + x') v5 r → Q (some (.inl r)) h') : mC G kX11_wayIn (d + 7) b [.inr (some 8), .inl v1, .inl v2, .inl v3, .inl v4, .inl v5] h Q := by
  have hn8 := st.1.1.2.1
  refine qX11_wayIn _ _ _ _ _ hS ⟨fun z => K1 (fun u => u.1 z), fun g1 => ⟨fun z => K1 (fun u => u.2.1 z), fun g2 => ⟨fun g3 => ?_, fun z => K1 (fun u => u.2.2 z)⟩⟩⟩
  obtain ⟨x, y, hx, hy, ex, ey⟩ := grid_ex g1
  obtain ⟨x', y', hx', hy', ex', ey'⟩ := grid_ex g2
  have K := K2 x y x' y' hx hy hx' hy' ex ey ex' ey' g3
  rw [ex, ey, ex', ey']
  refine c0_survey hS st sc (fun h1 f1 s1 k1 c1 r1 => ⟨rfl, f1.1.sk hS, ?_⟩)
  have hS1 := f1.1.sk hS
  have F1 : mFr2 (fun a k => aSu a k ∨ aWy a k) h h1 := f1.wk (fun a k z => Or.inl z)
  have nA : ∀ a k, (a = 38 ∨ a = 40 ∨ (a = 8 ∧ k = 7)) → ¬ aSu a k := fun a k z u => by
    unfold aSu aF1 aEr aEar at u
    omega
  have w1 : wyC h1 W := wc.fr f1 (nA 8 7 (by omega)) (fun k => nA 38 k (by omega)) (fun k => nA 40 k (by omega))
  have hsw : ∀ x y, x < 32 → y < 32 → bt (mI h1 36 y) x = swB W x y := fun x y hx hy => by
    by_cases nf : noFit W
    · rw [(r1.2.2.1 nf y hy).2, bt_0]
      cases hb : swB W x y with
      | false => rfl
      | true => exact ((swB_t.mp hb).1 nf).elim
    · rw [(r1.2.2.2 nf x y hx hy).2]
      exact bool_iff (by rw [slB_t, swB_t]; exact ⟨fun t => ⟨nf, t⟩, fun t => t.2⟩)
  have hsk : ∀ k, k < 1024 → bt (mI h1 36 (k / 32)) (k % 32) = swK W k := fun k hk => hsw _ _ (by omega) (by omega)
  have ka : swK W (32 * y + x) = swB W x y := by unfold swK; rw [show (32 * y + x) % 32 = x by omega, show (32 * y + x) / 32 = y by omega]
  have kg : swK W (32 * y' + x') = swB W x' y' := by unfold swK; rw [show (32 * y' + x') % 32 = x' by omega, show (32 * y' + x') / 32 = y' by omega]
  refine qX0_isSureWater _ _ hS1 ⟨vp_in_nI hy (by omega), fun w2 e2 => ⟨_, rfl, hS1, fun z => ?_, fun z => ?_⟩⟩
  · rw [nI_clamp (show y < 2 ^ 31 by omega)] at e2
    refine K h1 (-2) F1 s1 k1 c1 w1 (Or.inl ⟨fun u => ?_, rfl⟩)
    rw [ka, ← hsw x y hx hy] at u
    rw [e2, if_neg (fun t => t ((bt_ask _ hx).mpr u.1))] at z
    exact absurd z (by decide)
  · have sa : swK W (32 * y + x) = true := by
      rw [ka, ← hsw x y hx hy]
      refine (bt_ask _ hx).mp (Classical.byContradiction (fun t => z ?_))
      rw [nI_clamp (show y < 2 ^ 31 by omega)] at e2
      rw [e2, if_pos t]
    refine qX0_isSureWater _ _ hS1 ⟨vp_in_nI hy' (by omega), fun w3 e3 => ⟨_, rfl, hS1, fun z3 => ?_, fun z3 => ?_⟩⟩
    · have sg : swK W (32 * y' + x') = true := by
        rw [kg, ← hsw x' y' hx' hy']
        refine (bt_ask _ hx').mp (Classical.byContradiction (fun t => z3 ?_))
        rw [nI_clamp (show y' < 2 ^ 31 by omega)] at e3
        rw [e3, if_pos t]
      have ea : nI y * 32 + nI x = nI (32 * y + x) := by rw [show (32 : Int32) = nI 32 from rfl, pk_mul, nI_add, Nat.mul_comm]
      have eg : nI y' * 32 + nI x' = nI (32 * y' + x') := by rw [show (32 : Int32) = nI 32 from rfl, pk_mul, nI_add, Nat.mul_comm]
      rw [ea, eg]
      refine c10_seek (d := d + 3) (S := swK W) hS1 (by omega) (by omega) _ hsk (fun z1 z2 z3 => ?_) (fun h6 f6 i7 i5 i6 se => ⟨rfl, f6.1.sk hS1, ?_⟩)
      · obtain ⟨a', g', a1, a2, a3, a4, a5⟩ := w1.1 z1
        rw [a3] at z2
        rw [a4] at z3
        have e1 := nI_bk (by omega) (by omega) z2
        have e2 := nI_bk (by omega) (by omega) z3
        rw [← e1, ← e2]; exact a5
      · have hS6 := f6.1.sk hS1
        have F6 : mFr2 (fun a k => aSu a k ∨ aWy a k) h h6 := F1.tr (f6.wk (fun a k z => Or.inr z))
        have s6 : cSt h6 W I := s1.ca (f6.wk (fun a k z => by unfold aWy at z; unfold aCa; omega))
        have k6 : flK h1 h6 W I := flK.lo s1.1 f6 (fun a k q z => by unfold aWy at z; omega)
        have c6 : suC h6 W I := c1.fr f6 k6 (by unfold aWy; omega) (by unfold aWy; omega) (by unfold aWy; omega) (fun k => ⟨by unfold aWy; omega, by unfold aWy; omega⟩)
        have w6 : wyC h6 W := ⟨fun _ => ⟨_, _, by omega, by omega, i5, i6, se⟩, by rw [i7, f6.2 8 7 (by unfold aWy; omega)]; exact w1.2.rf⟩
        have KK := fun r => K h6 r F6 s6 (k1.tr k6) c6 w6
        rcases se with ⟨eq, r2, r3, r4⟩ | ⟨ne, r2, no⟩ | ⟨ne, r2, q, t, s, fs, j3, j4, j5⟩
        · rw [r2, r3, r4]
          refine ⟨fun _ => ⟨fun n1 => ⟨fun n2 => ⟨fun l => KK (-1) (Or.inr ⟨⟨sa, sg⟩, Or.inl ⟨eq, by rw [if_neg (by rintro (u | u) <;> contradiction)]⟩⟩), fun l => ?_⟩, fun e => KK 0 (Or.inr ⟨⟨sa, sg⟩, Or.inl ⟨eq, by rw [if_pos (Or.inr e)]⟩⟩)⟩, fun e => KK 0 (Or.inr ⟨⟨sa, sg⟩, Or.inl ⟨eq, by rw [if_pos (Or.inl e)]⟩⟩)⟩, fun z => absurd z (by decide)⟩
          exfalso
          rcases m1_ex g3 with e | e | ⟨n, hn, e⟩
          · exact n1 e
          · exact n2 e
          · rw [e] at l; exact l (nI_le (a := 0) (by omega) (by omega))
        · rw [r2]
          exact ⟨fun z => absurd rfl z, fun _ => KK (-2) (Or.inr ⟨⟨sa, sg⟩, Or.inr (Or.inl ⟨ne, no, rfl⟩)⟩)⟩
        · have ob : s ≤ 1024 := (lx_bd (by omega) fs.1 (by omega) fs.2.1).2.1
          rw [r2, j3, j4]
          have P := fun r u => KK r (Or.inr ⟨⟨sa, sg⟩, Or.inr (Or.inr ⟨ne, q, t, s, fs, u⟩)⟩)
          refine ⟨fun _ => ⟨fun n1 => ⟨fun n2 => ?_, fun e => P _ (Or.inr (Or.inl ⟨e, rfl⟩))⟩, fun e => P _ (Or.inl ⟨e, rfl⟩)⟩, fun z => absurd z (by decide)⟩
          rcases m1_ex g3 with e | e | ⟨n, hn, e⟩
          · exact (n1 e).elim
          · exact (n2 e).elim
          · rw [e, nI_leI (by omega) (by omega), nI_clamp (show n < 2 ^ 31 by omega)]
            rw [e] at P
            refine ⟨fun l => P _ (Or.inr (Or.inr ⟨n, hn, rfl, Or.inl ⟨l, rfl⟩⟩)), fun l => ⟨vp_in_nI hn (by omega), ?_⟩⟩
            obtain ⟨k, q', t', s', u1, u2⟩ := j5 n hn (by omega)
            rw [u2]
            exact P _ (Or.inr (Or.inr ⟨n, hn, rfl, Or.inr ⟨by omega, k, q', t', s', u1, rfl⟩⟩))
    · rw [nI_clamp (show y' < 2 ^ 31 by omega)] at e3
      refine K h1 (-2) F1 s1 k1 c1 w1 (Or.inl ⟨fun u => ?_, rfl⟩)
      rw [kg, ← hsw x' y' hx' hy'] at u
      rw [e3, if_neg (fun t => t ((bt_ask _ hx').mpr u.2))] at z3
      exact absurd z3 (by decide)
end
