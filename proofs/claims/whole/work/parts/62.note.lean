/-! a note is told -/
/-- low cells of the class's world -/
def wl0 : Nat → Nat → Prop := fun x k => (x = 33 ∧ k = 1) ∨ (x = 11 ∧ k = 4) ∨ (12 ≤ x ∧ x ≤ 15) ∨ (17 ≤ x ∧ x ≤ 19) ∨ (22 ≤ x ∧ x ≤ 24) ∨ ((x = 16 ∨ x = 21) ∧ k = 5) ∨ (x = 28 ∧ 1 ≤ k ∧ k ≤ 5)
theorem wcI_lo {h : mH} {W : aW} {I : Nat → Nat} (hW : cWo h W I) {x k : Nat} (z : wcI h W I x k) : 93 ≤ x ∨ wl0 x k := by
  unfold wl0
  rcases z with z | ⟨c, j, z1, z2, z3⟩ | z | z | z | z | z | z | ⟨i, lid, q1, q2, q3⟩
  · omega
  · have := (hW.2.1 c z1).1; omega
  · omega
  · omega
  · omega
  · omega
  · omega
  · omega
  · obtain ⟨lid', r1, t6, g93, -, -, -, -, -, -, g6⟩ := (hW.2.2.2.2.2.2.1.2.2 i q1).1
    rw [q2] at r1
    cases r1
    rcases q3 with q3 | ⟨k', v, r1, r2, r3⟩
    · omega
    · obtain ⟨v', v1, v2, v3, -⟩ := g6 k' r1
      rw [r2] at v1
      cases v1
      omega
theorem cSt.lo {A : Nat → Nat → Prop} {h h' : mH} {W : aW} {I : Nat → Nat} (f : mFr2 A h h') (hA : ∀ x k, A x k → x < 93 ∧ ¬ wl0 x k) (st : cSt h W I) : cSt h' W I := by
  refine st.up (wSm.fr f (fun x k z e => ?_)) (st.1.2.2.2.2.2.2.2.2.2.1.kp f.1) (st.2.2.2.kp f.1) (fun v r tv hv q1 q2 => ?_)
  · have h1 := hA x k e
    rcases wcI_lo st.1 z with q | q
    · omega
    · exact h1.2 q
  · rw [f.1.2.1] at tv
    rw [f.2 _ _ (fun e => by have := (hA _ _ e).1; omega), f.2 _ _ (fun e => by have := (hA _ _ e).1; omega)]
    exact st.2.2.1 v r tv hv q1 q2
def adN (l : aLi) (t : aNt) : aLi := (l.1, l.2.1, jN l + 1, fun k => if k = jN l then t else jT l k)
def wNote (W : aW) (t : aNt) : aW := (W.1, W.2.1, W.2.2.1, (wl W, fun i => if i = wl W - 1 then adN (wJ W i) t else wJ W i), W.2.2.2.2)
theorem wNote_J {W : aW} {t : aNt} {i : Nat} (h : i ≠ wl W - 1) : wJ (wNote W t) i = wJ W i := if_neg h
theorem wNote_n {W : aW} {t : aNt} : wJ (wNote W t) (wl W - 1) = adN (wJ W (wl W - 1)) t := if_pos rfl
theorem wNote_m {W : aW} {t : aNt} (i : Nat) : jX (wJ (wNote W t) i) = jX (wJ W i) ∧ jY (wJ (wNote W t) i) = jY (wJ W i) ∧ jD (wJ (wNote W t) i) = jD (wJ W i) := by
  by_cases e : i = wl W - 1
  · subst e; rw [wNote_n]; exact ⟨rfl, rfl, rfl⟩
  · rw [wNote_J e]; exact ⟨rfl, rfl, rfl⟩
theorem wNote_O {W : aW} {t : aNt} {c i k : Nat} (h : i ≠ wl W - 1) : wO (wNote W t) c i k = wO W c i k := by
  unfold wO
  rw [wNote_J h]; rfl
theorem wNote_F {W : aW} {t : aNt} {c i : Nat} (h : i < wl W - 1) (k : Nat) : wF (wNote W t) c i k = wF W c i k :=
  foV_cg i (fun j hj k => wNote_O (by omega)) (fun j hj => wNote_m j) k
theorem wrC_ad {L : aLw} {U : aSo} {C : aCo} {l : aLi} {t : aNt} {x y j : Nat} (hj : j ≤ jN l) : wrC L U C (adN l t) x y j = wrC L U C l x y j := by
  unfold wrC
  refine cnt_cong j (fun k hk => ?_)
  have e : jT (adN l t) k = jT l k := if_neg (show ¬ k = jN l by omega)
  rw [e]; rfl
theorem wNote_P {W : aW} {t : aNt} {c i j x y : Nat} (h : i < wl W) (hj : i = wl W - 1 → j ≤ jN (wJ W i)) : pV (wNote W t) c i j x y = pV W c i j x y := by
  have e : prV (wO (wNote W t) c) (wJ (wNote W t)) (wB W) i (32 * y + x) = prV (wO W c) (wJ W) (wB W) i (32 * y + x) := prV_cg i (fun j hj k => wNote_O (by omega)) (fun j hj => wNote_m j) _
  have e2 : wrC (wL W) (wU W) (wC W c) (wJ (wNote W t) i) x y j = wrC (wL W) (wU W) (wC W c) (wJ W i) x y j := by
    by_cases q : i = wl W - 1
    · have := hj q
      subst q
      rw [wNote_n]; exact wrC_ad this
    · rw [wNote_J q]
  show sm (prV (wO (wNote W t) c) (wJ (wNote W t)) (wB W) i (32 * y + x)) (if coLand (wC W c) x y then FARn else wrC (wL W) (wU W) (wC W c) (wJ (wNote W t) i) x y j) = _
  rw [e, e2]; rfl
/-- a note's cells that are not among the log's are no cells of the world -/
theorem wcI_note {h : mH} {W : aW} {I : Nat → Nat} {lid v n : Nat} (hS : mSk h) (hW : cWo h W I) (hn : n < wl W) (r : mR h 29 n = some lid) (hv : mR h (lid + 1) (jN (wJ W n)) = some v) (t : mT h v = 8) (tl : mT h lid = 6) (g : 93 ≤ v) {x k : Nat} (z : wcI h W I x k) : x ≠ v ∧ x ≠ v + 1 ∧ x ≠ v + 2 := by
  suffices hh : ∀ j, j ≤ 2 → x ≠ v + j from ⟨hh 0 (by omega), hh 1 (by omega), hh 2 (by omega)⟩
  intro j hj e
  rcases z with z | ⟨c, j', z1, z2, z3⟩ | z | z | z | z | z | z | ⟨i, lid', q1, q2, q3⟩
  · omega
  · exact ap82 hS t (hW.1.2.2 c z1).2.1 j j' hj z2 (by omega)
  · omega
  · omega
  · omega
  · omega
  · omega
  · omega
  · obtain ⟨lid'', r1, t6, g93, -, -, -, -, -, -, g6⟩ := (hW.2.2.2.2.2.2.1.2.2 i q1).1
    rw [q2] at r1
    cases r1
    rcases q3 with q3 | ⟨k', v', r1, r2, r3⟩
    · exact ap68 hS t6 t 0 j (by omega) hj (by omega)
    · obtain ⟨v'', v1, v2, v3, -⟩ := g6 k' r1
      rw [r2] at v1
      cases v1
      by_cases ev : v' = v
      · rw [ev] at r2
        obtain ⟨a1, a2⟩ := hW.2.2.2.2.2.2.2.2.2.1.2 lid' lid k' _ v t6 tl r2 hv
        rw [a1] at q2
        have := hW.2.2.2.2.2.2.2.2.2.1.1 i n lid q2 r
        rw [this, a2] at r1
        exact Nat.lt_irrefl _ r1
      · have ap := ap88 hS v3 t ev
        have a0 := ap 0 j (by omega) hj; have a1 := ap 1 j (by omega) hj; have a2 := ap 2 j (by omega) hj
        omega
theorem cSt.note {h : mH} {W : aW} {I : Nat → Nat} {lid v n : Nat} {t : aNt} (hS : mSk h) (st : cSt h W I) (hn : wl W = n + 1) (r : mR h 29 n = some lid) (h6 : jN (wJ W n) < 6) (hv : mR h (lid + 1) (jN (wJ W n)) = some v) (nt : ntX h v t) (hz : ∀ r, r < 256 → mI h (v + 1) r = 0 ∧ mI h (v + 2) r = 0) (ok : okNt (wm W) t) : cSt (mSI h lid 5 (nI (jN (wJ W n) + 1))) (wNote W t) I := by
  obtain ⟨⟨h1, h2, h3, h4, h5, h6', h7, h8, h9, h10, h11⟩, s2, s3, s4⟩ := st
  have f : mFr2 (fun x k => x = lid ∧ k = 5) h (mSI h lid 5 (nI (jN (wJ W n) + 1))) := mFr2.SI ⟨rfl, rfl⟩
  obtain ⟨tl, l93⟩ := s4.1 _ _ r
  obtain ⟨tv, v93⟩ := s4.2 _ _ _ tl hv
  have en : wl W - 1 = n := by omega
  have hn12 := h7.2.1
  have ntl : ∀ v' j, mT h v' = 8 → j ≤ 2 → v' + j ≠ lid := fun v' j q hj e => ap68 hS tl q 0 j (by omega) hj (by omega)
  have cok : ∀ c, c < wn W → ∀ j, j ≤ 8 → I c + j ≠ lid := fun c hc j hj e => ap62 hS tl (h1.2.2 c hc).2.1 0 j (by omega) hj (by omega)
  refine ⟨⟨⟨?_, h1.2.1, fun c hc => ⟨(h1.2.2 c hc).1, ?_⟩⟩, fun c hc => ⟨(h2 c hc).1, ?_⟩, h3, ?_, ?_, h6', ⟨?_, hn12, fun i hi => ?_⟩, ⟨?_, h8.2⟩, ?_, h10.kp f.1, ?_⟩, fun c hc => ?_, fun v' r' tv' hv' q1 q2 => ?_, s4.kp f.1⟩
  · rw [mI_SI_a (by omega)]; exact h1.1
  · exact cCo.eq (h := h) (h' := mSI h lid 5 (nI (jN (wJ W n) + 1))) rfl (fun j k hj => mI_SI_a (cok c hc j hj)) (h1.2.2 c hc).2
  · rw [mI_SI_a (show I c ≠ lid from cok c hc 0 (by omega))]; exact (h2 c hc).2
  · exact soX.fr f (fun a k q1 q2 z => by omega) (fun z => by omega) h4
  · exact lwX.fr f (fun a k q z => by omega) h5
  · rw [mI_SI_a (by omega)]; exact h7.1
  · obtain ⟨⟨lid', r1, t6, g93, g0, g1, g2, g3, g4, g5, g6⟩, okl⟩ := h7.2.2 i hi
    have notes : ∀ k v', mR h (lid' + 1) k = some v' → ∀ k', mI (mSI h lid 5 (nI (jN (wJ W n) + 1))) v' k' = mI h v' k' := fun k v' q k' => mI_SI_a (ntl v' 0 (s4.2 _ _ _ t6 q).1 (by omega))
    by_cases e : i = n
    · subst e
      rw [r] at r1
      cases r1
      rw [show wJ (wNote W t) i = adN (wJ W i) t by rw [← en]; exact wNote_n]
      obtain ⟨a1, a2, a3, a4, a5, a6, a7⟩ := okl
      refine ⟨⟨lid, r, t6, g93, by rw [mI_SI_k (by omega)]; exact g0, by rw [mI_SI_k (by omega)]; exact g1, by rw [mI_SI_k (by omega)]; exact g2, by rw [mI_SI_k (by omega)]; exact g3, by rw [mI_SI_k (by omega)]; exact g4, mI_SI_s, fun k hk => ?_⟩, ⟨a1, a2, a3, a4, a5, by show jN (wJ W i) + 1 ≤ 6; omega, fun k hk => ?_⟩⟩
      · by_cases ek : k = jN (wJ W i)
        · subst ek
          have e1 : jT (adN (wJ W i) t) (jN (wJ W i)) = t := if_pos rfl
          rw [e1]
          obtain ⟨n1, n2, n3, n4, n5⟩ := nt
          have nn := notes _ _ hv
          exact ⟨v, hv, v93, n1, by rw [nn]; exact n2, by rw [nn]; exact n3, by rw [nn]; exact n4, by rw [nn]; exact n5⟩
        · have e1 : jT (adN (wJ W i) t) k = jT (wJ W i) k := if_neg ek
          have hk' : k < jN (wJ W i) := by have : k < jN (wJ W i) + 1 := hk; omega
          rw [e1]
          obtain ⟨v', v1, v2, v3, v4, v5, v6, v7⟩ := g6 k hk'
          have nn := notes _ _ v1
          exact ⟨v', v1, v2, v3, by rw [nn]; exact v4, by rw [nn]; exact v5, by rw [nn]; exact v6, by rw [nn]; exact v7⟩
      · by_cases ek : k = jN (wJ W i)
        · subst ek
          have e1 : jT (adN (wJ W i) t) (jN (wJ W i)) = t := if_pos rfl
          rw [e1]; exact ok
        · have e1 : jT (adN (wJ W i) t) k = jT (wJ W i) k := if_neg ek
          have hk' : k < jN (wJ W i) := by have : k < jN (wJ W i) + 1 := hk; omega
          rw [e1]; exact a7 k hk'
    · have hne : lid' ≠ lid := fun q => e (h10.1 i n lid (by rw [← q]; exact r1) r)
      rw [wNote_J (by omega)]
      refine ⟨⟨lid', r1, t6, g93, by rw [mI_SI_a hne]; exact g0, by rw [mI_SI_a hne]; exact g1, by rw [mI_SI_a hne]; exact g2, by rw [mI_SI_a hne]; exact g3, by rw [mI_SI_a hne]; exact g4, by rw [mI_SI_a hne]; exact g5, fun k hk => ?_⟩, okl⟩
      obtain ⟨v', v1, v2, v3, v4, v5, v6, v7⟩ := g6 k hk
      have nn := notes _ _ v1
      exact ⟨v', v1, v2, v3, by rw [nn]; exact v4, by rw [nn]; exact v5, by rw [nn]; exact v6, by rw [nn]; exact v7⟩
  · rw [mI_SI_a (by omega)]; exact h8.1
  · obtain ⟨⟨q1, q2, q3⟩, q4⟩ := h9
    refine ⟨⟨?_, ?_, fun x hx => ?_⟩, q4⟩
    · rw [mI_SI_a (by omega)]; exact q1
    · rw [mI_SI_a (by omega)]; exact q2
    · rw [mI_SI_a (by omega)]; exact q3 x hx
  · intro i lid' k v' hi hl hk hv' c y hc hy x hx
    have hl' : mR h 29 i = some lid' := hl
    have hv2 : mR h (lid' + 1) k = some v' := hv'
    have t6 := (s4.1 _ _ hl').1
    have tv' := (s4.2 _ _ _ t6 hv2).1
    rw [mI_SI_a (ntl v' 1 tv' (by omega)), mI_SI_a (ntl v' 2 tv' (by omega))]
    by_cases e : i = n
    · subst e
      rw [r] at hl'
      cases hl'
      rw [show wJ (wNote W t) i = adN (wJ W i) t by rw [← en]; exact wNote_n] at hk ⊢
      by_cases ek : k = jN (wJ W i)
      · subst ek
        rw [hv] at hv2
        cases hv2
        have hn8 := h1.2.1
        have hc' : c < wn W := hc
        have z := hz (c * 32 + y) (by omega)
        rw [z.1, z.2, bt_0]; rfl
      · have e1 : jT (adN (wJ W i) t) k = jT (wJ W i) k := if_neg ek
        have hk' : k < jN (wJ W i) := by have : k < jN (wJ W i) + 1 := hk; omega
        rw [e1]
        exact h11 i lid k v' hi r hk' hv2 c y hc hy x hx
    · rw [wNote_J (by omega)] at hk ⊢
      exact h11 i lid' k v' hi hl' hk hv2 c y hc hy x hx
  · have hc' : c < wn W := hc
    obtain ⟨ld, nd, q⟩ := s2 c hc'
    have q' := q.eq (h' := mSI h lid 5 (nI (jN (wJ W n) + 1))) (fun j k hj => mI_SI_a (cok c hc' j hj))
    have ql := q.2.2.1
    have hF : ∀ i, i + 1 < ld → ∀ k, wF (wNote W t) c i k = wF W c i k := fun i hi k => wNote_F (by omega) k
    have hP : ∀ i, i + 1 = ld → ∀ x y, pV (wNote W t) c i nd x y = pV W c i nd x y := fun i hi x y => wNote_P (by omega) (fun _ => q.2.2.2.1 i hi)
    refine ⟨ld, nd, rch.cg (W := W) (W' := wNote W t) rfl ql hF (fun i hi => ⟨?_, hP i hi⟩) q'⟩
    have hq := q.2.2.2.1 i hi
    by_cases e : i = n
    · rw [e, show wJ (wNote W t) n = adN (wJ W n) t by rw [← en]; exact wNote_n]
      rw [e] at hq
      show nd ≤ jN (wJ W n) + 1; omega
    · rw [wNote_J (by omega)]; exact hq
  · have := s3 v' r' tv' hv' q1 q2
    rw [mI_SI_a (ntl v' 1 tv' (by omega)), mI_SI_a (ntl v' 2 tv' (by omega))]; exact this
