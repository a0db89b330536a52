/-! ahead (class) -/
theorem pw_aw {C : aCo} {q x y : Nat} (hx : x < 32) (hy : y < 32) (j : Nat) : pw (ecC C q x y / 2) (siC C q x y) j = awB C q x y (2 * j) := by
  have eb := ecC_b (C := C) (q := q) hx hy
  unfold pw awB
  by_cases j0 : j = 0
  · rw [if_pos j0, if_pos (by omega)]
  · rw [if_neg j0, if_neg (by omega), decide_eq_decide]; omega
section
variable {G : mG} {d : Nat} {b : Nat × Nat} {h : mH} {Q : Option mV → mH → Prop}
def aTp (a : Nat) : Nat → Nat → Prop := fun x _ => x = 46 ∨ x = a + 3 ∨ x = a + 4
set_option maxHeartbeats 4000000 in
theorem c8_tallyPairs {W : aW} {I : Nat → Nat} {CH : aCc} {c i j : Nat} (hS : mSk h) (st : cSt h W I) (h0 : 0 < wl W) (hC : chX h CH) (hc : c < wn W) (fo : fol h W I c) (hi : i < 6) (ht : bt CH.1 i = true) (hj : j < 6) (htj : bt CH.1 j = true)
    (K : ∀ h', mFr2 (aTp (I c)) h h' → cSt h' W I → flK h h' W I → (∀ a e, a < 32 → e < 32 → mI h' 46 (32 * a + e) = mI h 46 (32 * a + e) + nI (pcN W (CH.2 i) (CH.2 j) c (2 * a) (2 * e))) → Q none h') : mC G kX8_tallyPairs (d + 3) b [.inr (some 41), .inr (some (I c)), .inl (nI ((wl W - 1) * 128 + 32 * ws W)), .inl (nI i), .inl (nI j)] h Q := by
  have hn8 := st.1.1.2.1
  have hl12 := st.1.2.2.2.2.2.2.1.2.1
  have hs3 := st.1.2.2.2.2.2.2.2.1.2
  obtain ⟨⟨g1, g2, g3⟩, o1, o2, o3⟩ := hC.2.2 i hi ht
  obtain ⟨⟨k1', k2', k3'⟩, p1, p2, p3⟩ := hC.2.2 j hj htj
  obtain ⟨D, hD⟩ : ∃ D, D = CH.2 i := ⟨_, rfl⟩
  obtain ⟨E, hE⟩ : ∃ E, E = CH.2 j := ⟨_, rfl⟩
  rw [← hD] at g1 g2 g3 o1 o2 o3
  rw [← hE] at k1' k2' k3' p1 p2 p3
  have v6 := vp_in_nI (n := i) (N := 6) hi (by omega)
  have v6j := vp_in_nI (n := j) (N := 6) hj (by omega)
  have c6 := nI_clamp (n := i) (by omega)
  have c6j := nI_clamp (n := j) (by omega)
  have ta := (st.1.1.2.2 c hc).2.1
  have ha := (st.1.2.1 c hc).1
  refine qX8_tallyPairs (I c) _ _ _ ta hS ⟨v6, ?_⟩
  rw [c6, g3]
  refine c1_sweepS (d := d) hS st hc o3 (fun h1 f1 s1 k1 v1 => ⟨rfl, f1.1.sk hS, by rw [f1.1.2.1]; exact ta, v6j, ?_⟩)
  have hS1 := f1.1.sk hS
  rw [c6j, f1.2 44 _ (fun z => by unfold aSweep at z; omega), k3']
  refine c1_sweepS (d := d) hS1 s1 hc p3 (fun h2 f2 s2 k2 v2 => ⟨rfl, f2.1.sk hS1, by rw [f2.1.2.1, f1.1.2.1]; exact ta, ?_⟩)
  have hS2 := f2.1.sk hS1
  have lo2 : ∀ a k, a < 93 → mI h2 a k = mI h a k := fun a k q => by rw [f2.2 _ _ (fun z => by unfold aSweep at z; omega), f1.2 _ _ (fun z => by unfold aSweep at z; omega)]
  have v12 : cVw h2 (I c) (wC W c) D.2 := by
    intro x y hx hy
    by_cases e : D.2 = E.2
    · rw [e]; exact v2 x y hx hy
    · rw [f2.2 _ _ (fun z => by unfold aSweep at z; unfold vwI at z; omega)]; exact v1 x y hx hy
  have fo2 := (k1.tr k2) c hc fo
  obtain ⟨-, ta2, hCo2, okr, la2, -⟩ := s2.1.1.2.2 c hc
  refine mloop (W := fun y h3 => mW G kX8_tallyPairs (d + 3) b 24 [some (.inr (some 41)), some (.inr (some (I c))), some (.inl (nI ((wl W - 1) * 128 + 32 * ws W))), some (.inl (nI i)), some (.inl (nI j)), some (.inl (nI y)), none, none, none, none, none, none, none] [] h3 Q)
    (P := fun y h3 => mFr2 a46 h2 h3 ∧ ∀ a e, a < 32 → e < 32 → mI h3 46 (32 * a + e) = mI h 46 (32 * a + e) + nI (smN (pyN W D E c (2 * a) (2 * e)) y)) 32 ?_ ?_ 0 h2 (by omega) ⟨mFr2.rf, fun a e _ _ => by rw [lo2 _ _ (by omega)]; show _ = _ + (0 : Int32); simp⟩
  · rintro y h3 hy ⟨f3, c3⟩ ih
    have hS3 := f3.1.sk hS2
    have lo3 : ∀ a k, a ≠ 46 → mI h3 a k = mI h2 a k := fun a k q => f3.2 _ _ q
    have ta3 : mT h3 (I c) = 2 := by rw [f3.1.2.1]; exact ta2
    have ey1 : nI y + iI D.1.2 = iI ((y : Int) + D.1.2) := by rw [ii_nat y, ii_add]
    have ey2 : iI ((y : Int) + D.1.2) + iI E.1.2 = iI ((y : Int) + D.1.2 + E.1.2) := by rw [ii_add]
    have w1 := f_wiZ (v := iI ((y : Int) + D.1.2)) 0 31 ⟨by omega, by omega⟩ ⟨by omega, by omega⟩
    have w2 := f_wiZ (v := iI ((y : Int) + D.1.2 + E.1.2)) 0 31 ⟨by omega, by omega⟩ ⟨by omega, by omega⟩
    rw [ii_toInt ⟨by omega, by omega⟩] at w1 w2
    have w1' : f_X11_within (iI ((y : Int) + D.1.2)) 0 31 = 0 ↔ ¬ (0 ≤ (y : Int) + D.1.2 ∧ (y : Int) + D.1.2 ≤ 31) := w1
    have w2' : f_X11_within (iI ((y : Int) + D.1.2 + E.1.2)) 0 31 = 0 ↔ ¬ (0 ≤ (y : Int) + D.1.2 + E.1.2 ∧ (y : Int) + D.1.2 + E.1.2 ≤ 31) := w2
    have skip : ¬ ((0 ≤ (y : Int) + D.1.2 ∧ (y : Int) + D.1.2 < 32) ∧ (0 ≤ (y : Int) + D.1.2 + E.1.2 ∧ (y : Int) + D.1.2 + E.1.2 < 32)) → mW G kX8_tallyPairs (d + 3) b 24 [some (.inr (some 41)), some (.inr (some (I c))), some (.inl (nI ((wl W - 1) * 128 + 32 * ws W))), some (.inl (nI i)), some (.inl (nI j)), some (.inl (nI (y + 1))), none, none, none, none, none, none, none] [] h3 Q := by
      intro hno
      refine ih h3 ⟨f3, fun a e ha he => ?_⟩
      rw [c3 a e ha he, show smN (pyN W D E c (2 * a) (2 * e)) (y + 1) = smN (pyN W D E c (2 * a) (2 * e)) y + pyN W D E c (2 * a) (2 * e) y from rfl, pyN_0 hy hno, Nat.add_zero]
    refine qX8_tallyPairs_24 (I c) _ _ _ _ ta3 hS3 ⟨fun z => absurd z (nI_ge (b := 32) hy (by omega)), fun _ => ⟨v6, v6j, ?_⟩⟩
    rw [c6, c6j, lo3 43 _ (by omega), lo3 43 _ (by omega), lo2 43 _ (by omega), lo2 43 _ (by omega), g2, k2', ey1, ey2, w1', w2', nI_1]
    refine ⟨fun z => skip (by omega), fun z1 => ⟨fun z => skip (by omega), fun z2 => ?_⟩⟩
    have b1 := Classical.byContradiction z1
    have b2 := Classical.byContradiction z2
    obtain ⟨Y1, hY1⟩ : ∃ Y1 : Nat, (Y1 : Int) = y + D.1.2 := ⟨((y : Int) + D.1.2).toNat, by omega⟩
    obtain ⟨Y2, hY2⟩ : ∃ Y2 : Nat, (Y2 : Int) = y + D.1.2 + E.1.2 := ⟨((y : Int) + D.1.2 + E.1.2).toNat, by omega⟩
    have hY132 : Y1 < 32 := by omega
    have hY232 : Y2 < 32 := by omega
    rw [← hY2, ← hY1, ← ii_nat, ← ii_nat, lo3 44 _ (by omega), lo3 44 _ (by omega), lo2 44 _ (by omega), lo2 44 _ (by omega), g3, k3', lo3 42 _ (by omega), lo3 42 _ (by omega), lo2 42 _ (by omega), lo2 42 _ (by omega), g1, k1', nI_add ((wl W - 1) * 128 + 32 * ws W) y, nI_clamp (show (wl W - 1) * 128 + 32 * ws W + y < 2 ^ 31 by omega), nI_clamp (show Y1 < 2 ^ 31 by omega), nI_clamp (show Y2 < 2 ^ 31 by omega), lo3 (I c + 5) _ (by omega), lo3 (I c + 1) _ (by omega), lo3 (I c + 1) _ (by omega), L1024, L32, pk_mul, pk_mul, pk_mul, pk_mul, nI_add, nI_add]
    refine ⟨vp_in_nI (by omega) (by omega), v6, vp_in_nI (by omega) (by omega), v6j, vp_in_nI (by omega) (by omega), v6, v6j, v6j, ?_⟩
    obtain ⟨row, hrow⟩ : ∃ row, row = f_X11_moved (f_X11_moved (mI h2 (I c + 5) ((wl W - 1) * 128 + 32 * ws W + y)) (iI D.1.1) &&& m_not (mI h2 (I c + 1) Y1)) (iI E.1.1) &&& m_not (mI h2 (I c + 1) Y2) := ⟨_, rfl⟩
    rw [← hrow]
    have hrb : ∀ x, x < 32 → (bt row x = true ↔ ∃ x1 : Nat, x1 < 32 ∧ (x : Int) = x1 + E.1.1 ∧ (∃ sx : Nat, sx < 32 ∧ (x1 : Int) = sx + D.1.1 ∧ thB W c (wl W - 1) (32 * y + sx) = true) ∧ coLand (wC W c) x1 Y1 = false ∧ coLand (wC W c) x Y2 = false) := fun x hx => by
      rw [hrow, bt_and, Bool.and_eq_true, bt_moved (by omega) hx, bt_not _ hx, (la2 x Y2 hx hY232).1]
      constructor
      · rintro ⟨⟨x1, q1, q2, q3⟩, q4⟩
        rw [bt_and, Bool.and_eq_true, bt_moved (by omega) q1, bt_not _ q1, (la2 x1 Y1 q1 hY132).1] at q3
        obtain ⟨⟨sx, r1, r2, r3⟩, r4⟩ := q3
        rw [th_last s2.1 h0 fo2 r1 hy] at r3
        exact ⟨x1, q1, q2, ⟨sx, r1, r2, r3⟩, by simpa using r4, by simpa using q4⟩
      · rintro ⟨x1, q1, q2, ⟨sx, r1, r2, r3⟩, r4, q4⟩
        rw [← th_last s2.1 h0 fo2 r1 hy] at r3
        refine ⟨⟨x1, q1, q2, ?_⟩, by rw [q4]; rfl⟩
        rw [bt_and, Bool.and_eq_true, bt_moved (by omega) q1, bt_not _ q1, (la2 x1 Y1 q1 hY132).1]
        exact ⟨⟨sx, r1, r2, r3⟩, by rw [r4]; rfl⟩
    -- what a bit of the row tells
    obtain ⟨gg, hgg⟩ : ∃ gg : Nat → Nat → Nat → Bool, gg = fun (a e x : Nat) => awB (wC W c) D.2 ((x : Int) - E.1.1).toNat Y1 (2 * a) && awB (wC W c) E.2 x Y2 (2 * e) := ⟨_, rfl⟩
    have rc : ∀ a e, cnt (fun x => bt row x && gg a e x) 32 = pyN W D E c (2 * a) (2 * e) y := fun a e => by
      have coords : ∀ sx x1 x' : Nat, sx < 32 → x1 < 32 → (x1 : Int) = sx + D.1.1 → (x' : Int) = x1 + E.1.1 → tX D (32 * y + sx) = x1 ∧ tY D (32 * y + sx) = Y1 ∧ mvT D (32 * y + sx) = 32 * Y1 + x1 ∧ tX E (32 * Y1 + x1) = x' ∧ tY E (32 * Y1 + x1) = Y2 := fun sx x1 x' q1 q2 q3 q4 => by
        have e1 : tX D (32 * y + sx) = x1 := by unfold tX; rw [show (32 * y + sx) % 32 = sx by omega]; omega
        have e2 : tY D (32 * y + sx) = Y1 := by unfold tY; rw [show (32 * y + sx) / 32 = y by omega]; omega
        refine ⟨e1, e2, by unfold mvT; rw [e1, e2]; rfl, ?_, ?_⟩
        · unfold tX; rw [show (32 * Y1 + x1) % 32 = x1 by omega]; omega
        · unfold tY; rw [show (32 * Y1 + x1) / 32 = Y1 by omega]; omega
      refine cnt_tr (P := fun x => thB W c (wl W - 1) (32 * y + x) && prB (wC W c) D E (32 * y + x) (2 * a) (2 * e)) (s := D.1.1 + E.1.1) (by omega) (fun x hx q => ?_) (fun x' hx' => ?_)
      · rw [Bool.and_eq_true] at q
        obtain ⟨m1, m2⟩ := prB_t q.2
        obtain ⟨t1, t2, t3⟩ := mvT_x m1
        have u1 := (mvB_t.mp m1).1.1
        have u2 := (mvB_t.mp m2).1.1
        unfold tX at u2
        rw [t2] at u2
        unfold tX at u1 u2
        rw [show (32 * y + x) % 32 = x by omega] at u1 u2
        omega
      · rw [Bool.and_eq_true, hrb x' hx', hgg]
        constructor
        · rintro ⟨⟨x1, q1, q2, ⟨sx, r1, r2, r3⟩, r4, q4⟩, q5⟩
          refine ⟨sx, r1, by omega, ?_⟩
          obtain ⟨e1, e2, e3, e4, e5⟩ := coords sx x1 x' r1 q1 r2 q2
          have q5' : awB (wC W c) D.2 ((x' : Int) - E.1.1).toNat Y1 (2 * a) = true ∧ awB (wC W c) E.2 x' Y2 (2 * e) = true := by
            rw [Bool.and_eq_true] at q5; exact q5
          rw [show ((x' : Int) - E.1.1).toNat = x1 by omega] at q5'
          rw [r3, Bool.true_and]
          unfold prB aaB
          rw [e3, e1, e2, e4, e5, show ((x1 : Int)).toNat = x1 from rfl, show ((Y1 : Int)).toNat = Y1 from rfl, show ((x' : Int)).toNat = x' from rfl, show ((Y2 : Int)).toNat = Y2 from rfl, q5'.1, q5'.2, Bool.and_true, Bool.and_true, Bool.and_eq_true]
          refine ⟨mvB_t.mpr ⟨⟨by rw [e1]; omega, by rw [e2]; omega⟩, by rw [e1, e2]; exact r4⟩, mvB_t.mpr ⟨⟨by rw [e4]; omega, by rw [e5]; omega⟩, by rw [e4, e5]; exact q4⟩⟩
        · rintro ⟨sx, q1, q2, q3⟩
          rw [Bool.and_eq_true] at q3
          obtain ⟨m1, m2⟩ := prB_t q3.2
          have u1 := (mvB_t.mp m1).1.1
          obtain ⟨x1, hx1⟩ : ∃ x1 : Nat, (x1 : Int) = sx + D.1.1 := by
            unfold tX at u1
            rw [show (32 * y + sx) % 32 = sx by omega] at u1
            exact ⟨((sx : Int) + D.1.1).toNat, by omega⟩
          have hx132 : x1 < 32 := by
            unfold tX at u1
            rw [show (32 * y + sx) % 32 = sx by omega] at u1
            omega
          obtain ⟨e1, e2, e3, e4, e5⟩ := coords sx x1 x' q1 hx132 hx1 (by omega)
          have l1 := (mvB_t.mp m1).2
          rw [e1, e2] at l1
          have l2 := (mvB_t.mp m2).2
          rw [e3, e4, e5] at l2
          have q4 := q3.2
          unfold prB aaB at q4
          rw [e3, e1, e2, e4, e5, Bool.and_eq_true, Bool.and_eq_true, Bool.and_eq_true] at q4
          refine ⟨⟨x1, hx132, by omega, ⟨sx, q1, hx1, q3.1⟩, l1, l2⟩, ?_⟩
          show (awB (wC W c) D.2 ((x' : Int) - E.1.1).toNat Y1 (2 * a) && awB (wC W c) E.2 x' Y2 (2 * e)) = true
          rw [show ((x' : Int) - E.1.1).toNat = x1 by omega]
          have q41 : awB (wC W c) D.2 x1 Y1 (2 * a) = true := q4.1.2
          have q42 : awB (wC W c) E.2 x' Y2 (2 * e) = true := q4.2.2
          rw [q41, q42]; rfl
    have lp : ∀ (fu kk : Nat) (left : Int32) (h4 : mH), kk + fu = 32 → cnt (bt left) 32 ≤ fu → (∀ x, x < 32 → bt left x = true → bt row x = true) → mFr2 a46 h2 h4 → (∀ a e, a < 32 → e < 32 → mI h4 46 (32 * a + e) = mI h3 46 (32 * a + e) + nI (cnt (fun x => (bt row x && !bt left x) && gg a e x) 32)) →
        mW G kX8_tallyPairs (d + 3) b 178 [some (.inr (some 41)), some (.inr (some (I c))), some (.inl (nI ((wl W - 1) * 128 + 32 * ws W))), some (.inl (nI i)), some (.inl (nI j)), some (.inl (nI y)), none, none, some (.inl left), some (.inl (nI (D.2 * 1024 + Y1 * 32) - iI E.1.1)), some (.inl (nI (E.2 * 1024 + Y2 * 32))), some (.inl (nI kk)), none] [] h4 Q := by
      intro fu
      induction fu with
      | zero =>
        intro kk left h4 hkf hf hsub f4 c4
        have hz : left = 0 := by
          apply bt_ext
          intro x hx
          rw [bt_0]; exact (cnt_z 32).mp (by omega) x hx
        refine qX8_tallyPairs_178 (I c) _ _ _ _ _ _ _ _ (by rw [f4.1.2.1]; exact ta2) (f4.1.sk hS2) ⟨fun _ => ?_, fun z => absurd hz z⟩
        rw [nI_1]
        refine ih h4 ⟨f4, fun a e ha he => ?_⟩
        rw [c4 a e ha he, c3 a e ha he, hz, cnt_cong (q := fun x => bt row x && gg a e x) 32 (fun x _ => by rw [bt_0]; simp), rc]
        rw [show smN (pyN W D E c (2 * a) (2 * e)) (y + 1) = smN (pyN W D E c (2 * a) (2 * e)) y + pyN W D E c (2 * a) (2 * e) y from rfl, ← nI_add, Int32.add_assoc]
      | succ fu ihf =>
        intro kk left h4 hkf hf hsub f4 c4
        have hS4 := f4.1.sk hS2
        have ta4 : mT h4 (I c) = 2 := by rw [f4.1.2.1]; exact ta2
        by_cases hz : left = 0
        · refine qX8_tallyPairs_178 (I c) _ _ _ _ _ _ _ _ ta4 hS4 ⟨fun _ => ?_, fun z => absurd hz z⟩
          rw [nI_1]
          refine ih h4 ⟨f4, fun a e ha he => ?_⟩
          rw [c4 a e ha he, c3 a e ha he, hz, cnt_cong (q := fun x => bt row x && gg a e x) 32 (fun x _ => by rw [bt_0]; simp), rc]
          rw [show smN (pyN W D E c (2 * a) (2 * e)) (y + 1) = smN (pyN W D E c (2 * a) (2 * e)) y + pyN W D E c (2 * a) (2 * e) y from rfl, ← nI_add, Int32.add_assoc]
        · obtain ⟨p, hp, ep, hb, -, hl⟩ := low_n left hz
          have hrp := hsub p hp hb
          obtain ⟨x1, q1, q2, -, wat1, wat2⟩ := (hrb p hp).mp hrp
          have ei1 : nI (D.2 * 1024 + Y1 * 32) - iI E.1.1 + nI p = nI (D.2 * 1024 + Y1 * 32 + x1) := by
            rw [ii_nat, ii_sub, ii_nat, ii_add, ii_nat]; congr 1; omega
          have eview1 : mI h4 (I c + 3) (D.2 * 1024 + Y1 * 32 + x1) = vwC (wC W c) D.2 x1 Y1 := by
            rw [f4.2 _ _ (fun z => by unfold a46 at z; omega)]; exact v12 x1 Y1 q1 hY132
          have eview2 : mI h4 (I c + 3) (E.2 * 1024 + Y2 * 32 + p) = vwC (wC W c) E.2 p Y2 := by
            rw [f4.2 _ _ (fun z => by unfold a46 at z; omega)]; exact v2 p Y2 hp hY232
          have less : cnt (bt (left &&& (left - 1))) 32 ≤ fu := by
            have h1 := cnt_split (p := bt left) (u := p) 32 hp
            rw [hb, if_pos rfl] at h1
            rw [cnt_cong (q := fun i => bt left i && !decide (i = p)) 32 (fun x hx => hl x hx)]
            omega
          have eb1 := ecC_b (C := wC W c) (q := D.2) q1 hY132
          have eb2 := ecC_b (C := wC W c) (q := E.2) hp hY232
          refine qX8_tallyPairs_178 (I c) _ _ _ _ _ _ _ _ ta4 hS4 ⟨fun z => absurd z hz, fun _ => ⟨fun z => absurd z (nI_ge (b := 32) (by omega) (by omega)), fun _ => ?_⟩⟩
          rw [nI_1, ep, ei1, nI_add, nI_clamp (show D.2 * 1024 + Y1 * 32 + x1 < 2 ^ 31 by omega), nI_clamp (show E.2 * 1024 + Y2 * 32 + p < 2 ^ 31 by omega), eview1, eview2]
          refine ⟨vp_in_nI (by omega) (by omega), vp_in_nI (by omega) (by omega), ?_⟩
          refine c8_addPairs (d := d + 1) hS4 (show ecC (wC W c) D.2 x1 Y1 / 2 < 32 by omega) (show ecC (wC W c) E.2 p Y2 / 2 < 32 by omega) (vw_es okr q1 hY132 wat1) (vw_es okr hp hY232 wat2) (vw_echo okr q1 hY132 wat1).2 (vw_echo okr hp hY232 wat2).2 (fun h5 f5 c5 => ⟨rfl, f5.1.sk hS4, by rw [f5.1.2.1]; exact ta4, ?_⟩)
          refine ihf (kk + 1) (left &&& (left - 1)) h5 (by omega) less (fun x hx q => ?_) (f4.tr f5) (fun a e ha he => ?_)
          · rw [hl x hx, Bool.and_eq_true] at q
            exact hsub x hx q.1
          · rw [c5 a e ha he, c4 a e ha he, cnt_low (g := gg a e) hp hb hrp hl, pw_aw q1 hY132, pw_aw hp hY232]
            have eg : gg a e p = (awB (wC W c) D.2 x1 Y1 (2 * a) && awB (wC W c) E.2 p Y2 (2 * e)) := by
              rw [hgg]
              show (awB (wC W c) D.2 ((p : Int) - E.1.1).toNat Y1 (2 * a) && _) = _
              rw [show ((p : Int) - E.1.1).toNat = x1 by omega]
            rw [← eg]
            cases hg : gg a e p with
            | true => rw [if_pos rfl, ← nI_add, Int32.add_assoc]; rfl
            | false => rw [if_neg (by decide), Nat.add_zero, b2i_f]
    exact lp 32 0 row h3 rfl (cnt_le _ 32) (fun x _ q => q) f3 (fun a e _ _ => by rw [(cnt_z 32).mpr (fun x _ => by cases bt row x <;> simp)]; show _ = _ + (0 : Int32); simp)
  · rintro h3 ⟨f3, c3⟩
    have f13 : mFr2 (aTp (I c)) h h3 := ((f1.wk (fun x k z => by unfold aSweep at z; unfold aTp; omega)).tr (f2.wk (fun x k z => by unfold aSweep at z; unfold aTp; omega))).tr (f3.wk (fun x k z => Or.inl z))
    refine qX8_tallyPairs_24 (I c) _ _ _ _ (by rw [f3.1.2.1]; exact ta2) (f3.1.sk hS2) ⟨fun _ => K h3 f13 (s2.ca (f3.wk (fun x k z => by unfold a46 at z; unfold aCa; omega))) ((k1.tr k2).tr (flK.lo s2.1 f3 (fun x k q z => by unfold a46 at z; omega))) (fun a e ha he => ?_), fun z => absurd (by decide) z⟩
    rw [c3 a e ha he, ← hD, ← hE, pcN_r]
end
