/-! hears, echo -/
section
variable {G : mG} {d : Nat} {b : Nat × Nat} {b1 b2 : Nat} {h : mH} {Q : Option mV → mH → Prop}
theorem c7_forget {v : Nat} (hS : mSk h) (tv : mT h v = 8) (K : ∀ h', mFr2 (fun x _ => x = v + 1 ∨ x = v + 2) h h' → (∀ r, r < 256 → mI h' (v + 1) r = 0 ∧ mI h' (v + 2) r = 0) → Q none h') : mC G kX7_forget (d + 1) b [.inr (some v)] h Q := by
  have t1 := skB hS (o := 1) (u := 100) (l := 256) (by decide) tv
  have t2 := skB hS (o := 2) (u := 100) (l := 256) (by decide) tv
  refine qX7_forget v tv hS (j_fill (N := 256) 0 hS t1.1 t1.2 (by omega) (fun h1 f1 c1 => ⟨rfl, f1.1.sk hS, by rw [f1.1.2.1]; exact tv, ?_⟩))
  have hS1 := f1.1.sk hS
  refine j_fill (N := 256) 0 hS1 (by rw [f1.1.2.1]; exact t2.1) (by rw [f1.1.2.2.1]; exact t2.2) (by omega) (fun h2 f2 c2 => ⟨rfl, f2.1.sk hS1, by rw [f2.1.2.1, f1.1.2.1]; exact tv, K h2 ((f1.wk (fun x k z => Or.inl z)).tr (f2.wk (fun x k z => Or.inr z))) (fun r hr => ⟨?_, c2 r hr⟩)⟩)
  rw [f2.2 _ _ (fun z => by omega)]; exact c1 r hr
theorem c7_tell {v : Nat} (v1 v2 v3 v4 : Int32) (hb : m_bool v1) (hS : mSk h) (tv : mT h v = 8) (K : ∀ h', mFr2 (fun x _ => x = v ∨ x = v + 1 ∨ x = v + 2) h h' → (mI h' v 0 = v1 ∧ mI h' v 1 = v2 ∧ mI h' v 2 = v3 ∧ mI h' v 3 = v4) → (∀ r, r < 256 → mI h' (v + 1) r = 0 ∧ mI h' (v + 2) r = 0) → Q none h') : mC G kX7_tell (d + 2) b [.inr (some v), .inl v1, .inl v2, .inl v3, .inl v4] h Q := by
  refine qX7_tell v v1 v2 v3 v4 tv hS ⟨hb, fun h1 e1 h3 e3 h4 e4 h5 e5 => ?_⟩
  have sI : ∀ hh k z, mFr2 (fun x _ => x = v ∨ x = v + 1 ∨ x = v + 2) hh (mSI hh v k z) := fun hh k z => mFr2.SI (A := fun x _ => x = v ∨ x = v + 1 ∨ x = v + 2) (Or.inl rfl)
  have f : mFr2 (fun x _ => x = v ∨ x = v + 1 ∨ x = v + 2) h h5 := by
    rw [e5, e4, e3, e1]
    exact (((sI _ _ _).tr (sI _ _ _)).tr (sI _ _ _)).tr (sI _ _ _)
  refine c7_forget (f.1.sk hS) (by rw [f.1.2.1]; exact tv) (fun h6 f6 z6 => ⟨rfl, f6.1.sk (f.1.sk hS), by rw [f6.1.2.1, f.1.2.1]; exact tv, K h6 (f.tr (f6.wk (fun x k z => Or.inr z))) ?_ z6⟩)
  have g : ∀ k, mI h6 v k = mI h5 v k := fun k => f6.2 _ _ (fun z => by omega)
  rw [g, g, g, g]
  refine ⟨?_, ?_, ?_, ?_⟩
  · rw [e5, mI_SI_k (by omega), e4, mI_SI_k (by omega), e3, mI_SI_k (by omega), e1, mI_SI_s]
  · rw [e5, mI_SI_k (by omega), e4, mI_SI_k (by omega), e3, mI_SI_s]
  · rw [e5, mI_SI_k (by omega), e4, mI_SI_s]
  · rw [e5, mI_SI_s]
def aNone : Nat → Nat → Prop := fun _ _ => False
set_option maxHeartbeats 1000000 in
theorem c5_addNote {W : aW} {I : Nat → Nat} {n lid : Nat} {t : aNt} (hS : mSk h) (st : cSt h W I) (hn : wl W = n + 1) (r : mR h 29 n = some lid) (h6 : jN (wJ W n) < 6) (ok : okNt (wm W) t)
    (K : ∀ h', mSk h' → lwK aNone h h' → mN h' ≤ mN h + 3 → mT h' lid = 6 → mI h' lid 5 = nI (jN (wJ W n) + 1) → cSt h' (wNote W t) I → Q none h') : mC G kX5_addNote (d + 3) (b1 + 3, b2 + 518) [.inr (some lid), .inl (b2i t.1), .inl (nI t.2.1), .inl (nI t.2.2.1), .inl (nI t.2.2.2)] h Q := by
  obtain ⟨tl, l93⟩ := st.2.2.2.1 _ _ r
  obtain ⟨lid0, r0, lx⟩ := (st.1.2.2.2.2.2.2.1.2.2 n (by omega)).1
  rw [r] at r0
  cases r0
  have e5 : mI h lid 5 = nI (jN (wJ W n)) := lx.2.2.2.2.2.2.2.1
  -- behind the telling
  have fin : ∀ (h7 : mH) (v : Nat), mSk h7 → lwK aNone h h7 → mN h7 ≤ mN h + 3 → cSt h7 W I → mR h7 29 n = some lid → mT h7 lid = 6 → mR h7 (lid + 1) (jN (wJ W n)) = some v → mT h7 v = 8 → 93 ≤ v → ∀ (R : mH → Prop), (∀ h8, mSk h8 → mT h8 = mT h7 → (∀ h9, h9 = mSI h8 lid 5 ((mI h8 lid 5) + 1) → Q none h9) → R h8) → mC G kX7_tell (d + 2) (0, 0) [.inr (some v), .inl (b2i t.1), .inl (nI t.2.1), .inl (nI t.2.2.1), .inl (nI t.2.2.2)] h7 (fun r h10 => r = none ∧ R h10) := by
    intro h7 v hS7 l7 n7 s7 r7 tl7 v7 tv7 v93 R hR
    refine c7_tell _ _ _ _ (b2i_b _) hS7 tv7 (fun h8 f8 c8 z8 => ⟨rfl, hR h8 (f8.1.sk hS7) f8.1.2.1 (fun h9 e9 => ?_)⟩)
    have hS8 := f8.1.sk hS7
    have s8 : cSt h8 W I := by
      refine s7.up (wSm.fr f8 (fun x k z e => ?_)) (s7.1.2.2.2.2.2.2.2.2.2.1.kp f8.1) (s7.2.2.2.kp f8.1) (fun v' r' tv' hv' q1 q2 => ?_)
      · have := wcI_note hS7 s7.1 (by omega) r7 v7 tv7 tl7 v93 z
        omega
      · rw [f8.1.2.1] at tv'
        have hn8 := s7.1.1.2.1
        by_cases ev : v' = v
        · subst ev; exact z8 r' q2
        · have ap := ap88 hS7 tv' tv7 ev
          have a1 := fun j hj => ap 1 j (by omega) hj
          have a2 := fun j hj => ap 2 j (by omega) hj
          have p10 := a1 0 (by omega); have p11 := a1 1 (by omega); have p12 := a1 2 (by omega)
          have p20 := a2 0 (by omega); have p21 := a2 1 (by omega); have p22 := a2 2 (by omega)
          rw [f8.2 _ _ (fun z => by omega), f8.2 _ _ (fun z => by omega)]
          exact s7.2.2.1 v' r' tv' hv' q1 q2
    have ap := ap68 hS7 tl7 tv7
    have q0 := ap 0 0 (by omega) (by omega); have q1 := ap 0 1 (by omega) (by omega); have q2 := ap 0 2 (by omega) (by omega)
    have e5' : mI h8 lid 5 + 1 = nI (jN (wJ W n) + 1) := by
      obtain ⟨lid0, r0, lx⟩ := (s8.1.2.2.2.2.2.2.1.2.2 n (by omega)).1
      rw [f8.1.2.2.2, r7] at r0
      cases r0
      rw [lx.2.2.2.2.2.2.2.1, nI_1]
    rw [e5'] at e9
    rw [e9]
    refine K _ (sk_SI hS8) ((l7.tr (f8.lk.wk (fun x k hx z => by omega))).tr (lwK.SI (fun q => by omega))) (by show mN h8 ≤ _; rw [f8.1.1]; exact n7) (by show mT h8 lid = 6; rw [f8.1.2.1]; exact tl7) mI_SI_s ?_
    exact cSt.note hS8 s8 hn (by rw [f8.1.2.2.2]; exact r7) h6 (by rw [f8.1.2.2.2]; exact v7) ⟨by rw [f8.1.2.1]; exact tv7, c8.1, c8.2.1, c8.2.2.1, c8.2.2.2⟩ z8 ok
  refine qX5_addNote lid _ _ _ _ tl hS ⟨fun _ => ⟨by rw [e5]; exact vp_in_nI h6 (by omega), fun z h3 e3 => ?_, fun y2 z => ?_⟩, fun z => absurd (by rw [e5]; exact nI_lt (b := 6) h6 (by omega)) z⟩
  · rw [e5, nI_clamp (by omega)] at z ⊢
    refine c7_init hS e3 (fun h5 g5 hS5 nw5 n5 t5 => ?_)
    have s5 := st.gr hS hS5 g5 nw5
    have h93 : 93 ≤ mN h := Nat.le_of_succ_le hS.2.2.1.1
    have llt := tag_lt hS (a := lid) (by rw [tl]; decide)
    have llt1 := tag_lt hS (a := lid + 1) (by rw [skB6 hS tl]; decide)
    have tl5 : mT h5 lid = 6 := by rw [(g5.2 _ llt).1]; exact tl
    have r5 : mR h5 29 n = some lid := by rw [(g5.2 29 (by omega)).2.2.1]; exact r
    refine ⟨rfl, hS5, tl5, t5, vp_in_nI h6 (by omega), fun h7 e7 => ?_⟩
    have hS7 : mSk h7 := by rw [e7]; exact sk_SR hS5 (skB6 hS5 tl5) (sk_CFbig (by omega))
    have tt : mT h7 = mT h5 := by rw [e7]; rfl
    have ii : mI h7 = mI h5 := by rw [e7]; rfl
    have fresh : ∀ a k v, mT h5 a = 6 → mR h5 (a + 1) k = some v → v ≠ mN h := fun a k v q1 q2 e => by
      by_cases hlt : a < mN h
      · rw [(g5.2 a hlt).1] at q1
        have l1 := tag_lt hS (a := a + 1) (by rw [skB6 hS q1]; decide)
        rw [(g5.2 _ l1).2.2.1] at q2
        have := (st.2.2.2.2 a k v q1 q2).1
        have := tag_lt hS (a := v) (by omega)
        omega
      · rw [nw5.1 a k (by omega) q1] at q2; cases q2
    have ro : ∀ x k, ¬ (x = lid + 1 ∧ k = jN (wJ W n)) → mR h7 x k = mR h5 x k := fun x k q => by rw [e7, mR_SR, if_neg q]
    have rn : mR h7 (lid + 1) (jN (wJ W n)) = some (mN h) := by rw [e7, mR_SR, if_pos ⟨rfl, rfl⟩]
    have r29 : ∀ i, mR h7 29 i = mR h5 29 i := fun i => ro _ _ (fun q => by omega)
    have s7 : cSt h7 W I := by
      refine s5.up ⟨fun a _ => by rw [tt], fun x k z => ro _ _ (fun q => ?_), fun x k z => by rw [ii]⟩ ⟨fun i j a q1 q2 => ?_, fun a a' k k' v q1 q2 q3 q4 => ?_⟩ ⟨fun i lid' q => ?_, fun a k v q1 q2 => ?_⟩ (fun v r tv hv q1 q2 => ?_)
      · rcases z with z | z | z | ⟨i, lid', z1, z2, z3, z4⟩
        · omega
        · omega
        · omega
        · have : lid' = lid := by omega
          rw [this] at z2
          have := s5.1.2.2.2.2.2.2.2.2.2.1.1 i n lid z2 r5
          rw [this] at z4
          omega
      · rw [r29] at q1 q2; exact s5.1.2.2.2.2.2.2.2.2.2.1.1 i j a q1 q2
      · rw [tt] at q1 q2
        by_cases c1 : a + 1 = lid + 1 ∧ k = jN (wJ W n)
        · rw [c1.1, c1.2, rn] at q3
          cases q3
          by_cases c2 : a' + 1 = lid + 1 ∧ k' = jN (wJ W n)
          · omega
          · rw [ro _ _ c2] at q4
            exact absurd rfl (fresh a' k' _ q2 q4)
        · rw [ro _ _ c1] at q3
          by_cases c2 : a' + 1 = lid + 1 ∧ k' = jN (wJ W n)
          · rw [c2.1, c2.2, rn] at q4
            cases q4
            exact absurd rfl (fresh a k _ q1 q3)
          · rw [ro _ _ c2] at q4
            exact s5.1.2.2.2.2.2.2.2.2.2.1.2 a a' k k' v q1 q2 q3 q4
      · rw [r29] at q; rw [tt]; exact s5.2.2.2.1 i lid' q
      · rw [tt] at q1 ⊢
        by_cases c1 : a + 1 = lid + 1 ∧ k = jN (wJ W n)
        · rw [c1.1, c1.2, rn] at q2
          cases q2
          exact ⟨t5, h93⟩
        · rw [ro _ _ c1] at q2
          exact s5.2.2.2.2 a k v q1 q2
      · rw [tt] at tv
        rw [ii]; exact s5.2.2.1 v r tv hv q1 q2
    have e57 : mI h7 lid 5 = nI (jN (wJ W n)) := by rw [ii, (g5.2 _ llt).2.2.2]; exact e5
    rw [e57, nI_clamp (by omega)]
    refine ⟨vp_in_nI h6 (by omega), mN h, rn, by rw [tt]; exact t5, fin h7 (mN h) hS7 ((g5.lk hS).tr (by rw [e7]; exact lwK.SR (by omega))) (by rw [e7]; show mN h5 ≤ _; omega) s7 (by rw [r29]; exact r5) (by rw [tt]; exact tl5) rn (by rw [tt]; exact t5) h93 _ (fun h8 hS8 t8 K8 => ⟨hS8, by rw [t8, tt]; exact tl5, by rw [t8, tt]; exact t5, by rw [t8, tt]; exact t5, K8⟩)⟩
  · rw [e5, nI_clamp (by omega)] at z ⊢
    obtain ⟨t8, v93⟩ := st.2.2.2.2 _ _ _ tl z
    exact ⟨t8, vp_in_nI h6 (by omega), y2, z, t8, fin h y2 hS lwK.rf (by omega) st r tl z t8 v93 _ (fun h8 hS8 t8' K8 => ⟨hS8, by rw [t8']; exact tl, by rw [t8']; exact t8, by rw [t8']; exact t8, K8⟩)⟩
theorem c11_addNote {W : aW} {I : Nat → Nat} {t : aNt} (hS : mSk h) (st : cSt h W I) (ok : okNt (wm W) t) (K1 : (wl W = 0 ∨ jN (wJ W (wl W - 1)) = 6) → Q (some (.inl (-1))) h)
    (K2 : 0 < wl W → jN (wJ W (wl W - 1)) < 6 → ∀ h', mSk h' → lwK (fun x k => x = 8 ∧ k = 7) h h' → mN h' ≤ mN h + 3 → mI h' 8 7 = mI h 8 7 + 1 → cSt h' (wNote W t) I → Q (some (.inl (nI (jN (wJ W (wl W - 1)) + 1)))) h') : mC G kX11_addNote (d + 4) (b1 + 3, b2 + 518) [.inr (some 8), .inl (b2i t.1), .inl (nI t.2.1), .inl (nI t.2.2.1), .inl (nI t.2.2.2)] h Q := by
  have e1 := st.1.2.2.2.2.2.2.1.1
  have hl12 := st.1.2.2.2.2.2.2.1.2.1
  refine qX11_addNote _ _ _ _ hS (qX6_last hS ⟨fun z => ⟨_, rfl, hS, fun _ => K1 (Or.inl ?_), fun y q => (by cases q)⟩, fun z => ?_⟩)
  · rw [e1, show (0 : Int32) = nI 0 from rfl, nI_leI (by omega) (by omega)] at z; omega
  · have h0 : 0 < wl W := by
      apply Classical.byContradiction; intro t
      exact z (by rw [e1]; exact nI_le (b := 0) (by omega) (by omega))
    obtain ⟨n, hn⟩ : ∃ n, wl W = n + 1 := ⟨wl W - 1, by omega⟩
    have en : wl W - 1 = n := by omega
    have e2 : mI h 28 1 - 1 = nI n := by rw [e1, hn]; exact nI_pred n
    rw [en] at K1 K2
    obtain ⟨⟨lid, r, lx⟩, okl⟩ := st.1.2.2.2.2.2.2.1.2.2 n (by omega)
    have h6 : jN (wJ W n) ≤ 6 := okl.2.2.2.2.2.1
    have e5 : mI h lid 5 = nI (jN (wJ W n)) := lx.2.2.2.2.2.2.2.1
    rw [e2, nI_clamp (by omega), r]
    refine ⟨vp_in_nI (by omega) (by omega), _, rfl, hS, fun q => (by cases q), fun y q => ?_⟩
    cases q
    rw [e5]
    refine ⟨lx.1, fun z6 => ?_, fun z6 => K1 (Or.inr ?_)⟩
    · have hlt : jN (wJ W n) < 6 := by
        rw [show (6 : Int32) = nI 6 from rfl, nI_ltI (by omega) (by omega)] at z6; exact z6
      refine c5_addNote (b1 := 0) (b2 := 0) hS st hn r hlt ok (fun h4 hS4 l4 n4 t4 f4 s4 => ⟨rfl, hS4, t4, fun h5 e5' => ?_⟩)
      have l93 := lx.2.1
      have g5 : mI h5 lid 5 = nI (jN (wJ W n) + 1) := by rw [e5', mI_SI_a (by omega)]; exact f4
      rw [g5]
      have f : mFr2 (fun x k => x = 8 ∧ k = 7) h4 h5 := by rw [e5']; exact mFr2.SI ⟨rfl, rfl⟩
      exact K2 h0 hlt h5 (f.1.sk hS4) ((l4.wk (fun x k _ z => z.elim)).tr f.lk) (by rw [f.1.1]; exact n4) (by rw [e5', mI_SI_s, l4.1 8 7 (by omega) (fun z => z)]) (s4.lo f (fun x k z => ⟨by omega, by unfold wl0; omega⟩))
    · rw [show (6 : Int32) = nI 6 from rfl, nI_ltI (by omega) (by omega)] at z6; omega
/-- what hears and echo accept, and the note -/
def okHe (m : Nat) (v1 v2 v3 : Int32) : Prop := (0 ≤ v1.toInt ∧ v1.toInt < m) ∧ ¬ f_X11_within v2 0 99 = 0 ∧ ¬ f_X11_within v3 0 99 = 0
def heT (v1 v2 v3 : Int32) : aNt := (false, v1.toNatClampNeg, v2.toNatClampNeg, v3.toNatClampNeg)
def okEc (v1 v2 : Int32) : Prop := ¬ f_X11_within v1 0 3 = 0 ∧ ¬ f_X11_within v2 0 64 = 0
def ecT (v1 v2 : Int32) : aNt := (true, v1.toNatClampNeg, v2.toNatClampNeg, 0)
theorem okHe_t {m : Nat} {v1 v2 v3 : Int32} (hm : m ≤ 6) (ok : okHe m v1 v2 v3) : okNt m (heT v1 v2 v3) ∧ v1 = nI (heT v1 v2 v3).2.1 ∧ v2 = nI (heT v1 v2 v3).2.2.1 ∧ v3 = nI (heT v1 v2 v3).2.2.2 := by
  obtain ⟨o1, o2, o3⟩ := ok
  obtain ⟨q1, h1, e1⟩ := nI_ex o1.1 o1.2 (by omega)
  obtain ⟨q2, h2, e2⟩ := wi_ex (m := 99) (by omega) o2
  obtain ⟨q3, h3, e3⟩ := wi_ex (m := 99) (by omega) o3
  have c1 : v1.toNatClampNeg = q1 := by rw [e1]; exact nI_clamp (by omega)
  have c2 : v2.toNatClampNeg = q2 := by rw [e2]; exact nI_clamp (by omega)
  have c3 : v3.toNatClampNeg = q3 := by rw [e3]; exact nI_clamp (by omega)
  refine ⟨⟨fun z => (by cases z), fun _ => ?_⟩, ?_, ?_, ?_⟩
  · show v1.toNatClampNeg < m ∧ v2.toNatClampNeg < 100 ∧ v3.toNatClampNeg < 100; omega
  · show v1 = nI v1.toNatClampNeg; rw [c1]; exact e1
  · show v2 = nI v2.toNatClampNeg; rw [c2]; exact e2
  · show v3 = nI v3.toNatClampNeg; rw [c3]; exact e3
theorem okEc_t {m : Nat} {v1 v2 : Int32} (ok : okEc v1 v2) : okNt m (ecT v1 v2) ∧ v1 = nI (ecT v1 v2).2.1 ∧ v2 = nI (ecT v1 v2).2.2.1 := by
  obtain ⟨o1, o2⟩ := ok
  obtain ⟨q1, h1, e1⟩ := wi_ex (m := 3) (by omega) o1
  obtain ⟨q2, h2, e2⟩ := wi_ex (m := 64) (by omega) o2
  have c1 : v1.toNatClampNeg = q1 := by rw [e1]; exact nI_clamp (by omega)
  have c2 : v2.toNatClampNeg = q2 := by rw [e2]; exact nI_clamp (by omega)
  refine ⟨⟨fun _ => ?_, fun z => (by cases z)⟩, ?_, ?_⟩
  · show v1.toNatClampNeg < 4 ∧ v2.toNatClampNeg ≤ 64 ∧ 0 = 0; omega
  · show v1 = nI v1.toNatClampNeg; rw [c1]; exact e1
  · show v2 = nI v2.toNatClampNeg; rw [c2]; exact e2
def noNo (W : aW) : Prop := wl W = 0 ∨ jN (wJ W (wl W - 1)) = 6
theorem c11_hears (v1 v2 v3 : Int32) {W : aW} {I : Nat → Nat} (hS : mSk h) (st : cSt h W I) (K1 : (¬ okHe (wm W) v1 v2 v3 ∨ noNo W) → Q (some (.inl (-1))) h)
    (K2 : okHe (wm W) v1 v2 v3 → 0 < wl W → jN (wJ W (wl W - 1)) < 6 → ∀ h', mSk h' → lwK (fun x k => x = 8 ∧ k = 7) h h' → mN h' ≤ mN h + 3 → mI h' 8 7 = mI h 8 7 + 1 → cSt h' (wNote W (heT v1 v2 v3)) I → Q (some (.inl (nI (jN (wJ W (wl W - 1)) + 1)))) h') : mC G kX11_hears (d + 5) (b1 + 3, b2 + 518) [.inr (some 8), .inl v1, .inl v2, .inl v3] h Q := by
  have hU := st.1.2.2.2.1
  refine qX11_hears v1 v2 v3 hS (fun w1 hw1 => c2_hasSounder v1 hS hU.1 hU.2.1 (fun t => ⟨_, rfl, hS, fun _ => K1 (Or.inl (fun u => t u.1)), fun z => absurd rfl z⟩) (fun c hc ec => ⟨_, rfl, hS, fun z => absurd z (by decide), fun _ => ⟨fun z => ?_, fun z => K1 (Or.inl (fun u => ?_))⟩⟩))
  · have hm := hU.2.1
    have ok : okHe (wm W) v1 v2 v3 := by
      refine ⟨by rw [ec, nI_toI (by omega)]; omega, fun q => z ?_, fun q => z ?_⟩
      · rw [hw1, if_pos q]
      · rw [hw1, if_pos q]; split <;> rfl
    obtain ⟨okt, e1, e2, e3⟩ := okHe_t hm ok
    have main := c11_addNote (G := G) (d := d) (b1 := 0) (b2 := 0) (h := h) (Q := fun r h4 => ∃ x5, r = some (.inl x5) ∧ mSk h4 ∧ Q (some (.inl x5)) h4) (t := heT v1 v2 v3) hS st okt (fun q => ⟨_, rfl, hS, K1 (Or.inr q)⟩) (fun q1 q2 h' s1 s2 s3 s4 s5 => ⟨_, rfl, s1, K2 ok q1 q2 h' s1 s2 s3 s4 s5⟩)
    rw [← e1, ← e2, ← e3] at main
    exact main
  · rw [if_neg u.2.1, if_neg u.2.2] at hw1
    rw [hw1] at z
    exact absurd z (by decide)
theorem c11_echo (v1 v2 : Int32) {W : aW} {I : Nat → Nat} (hS : mSk h) (st : cSt h W I) (K1 : (¬ okEc v1 v2 ∨ noNo W) → Q (some (.inl (-1))) h)
    (K2 : okEc v1 v2 → 0 < wl W → jN (wJ W (wl W - 1)) < 6 → ∀ h', mSk h' → lwK (fun x k => x = 8 ∧ k = 7) h h' → mN h' ≤ mN h + 3 → mI h' 8 7 = mI h 8 7 + 1 → cSt h' (wNote W (ecT v1 v2)) I → Q (some (.inl (nI (jN (wJ W (wl W - 1)) + 1)))) h') : mC G kX11_echo (d + 5) (b1 + 3, b2 + 518) [.inr (some 8), .inl v1, .inl v2] h Q := by
  refine qX11_echo v1 v2 hS ⟨fun z => K1 (Or.inl (fun u => u.1 z)), fun o1 => ⟨fun o2 => ?_, fun z => K1 (Or.inl (fun u => u.2 z))⟩⟩
  have ok : okEc v1 v2 := ⟨o1, o2⟩
  obtain ⟨okt, e1, e2⟩ := okEc_t (m := wm W) ok
  have main := c11_addNote (G := G) (d := d) (b1 := 0) (b2 := 0) (h := h) (Q := fun r h4 => ∃ x5, r = some (.inl x5) ∧ mSk h4 ∧ Q (some (.inl x5)) h4) (t := ecT v1 v2) hS st okt (fun q => ⟨_, rfl, hS, K1 (Or.inr q)⟩) (fun q1 q2 h' s1 s2 s3 s4 s5 => ⟨_, rfl, s1, K2 ok q1 q2 h' s1 s2 s3 s4 s5⟩)
  rw [← e1, ← e2] at main
  exact main
theorem m_note {W : aW} {t : aNt} (v1 : Int32) (e1 : v1 = if t.1 then iI (t.2.1 - 10) else nI t.2.1) (hS : mSk h) (hW : mWo h W) (ok : okNt (wm W) t) (K1 : noNo W → Q (some (.inl (-1))) h)
    (K2 : 0 < wl W → jN (wJ W (wl W - 1)) < 6 → ∀ h', mFr2 (fun x _ => 74 ≤ x ∧ x ≤ 77) h h' → mWo h' (wNote W t) → Q (some (.inl (nI (jN (wJ W (wl W - 1)) + 1)))) h') : mC G kX12_note d b [.inr (some 47), .inl v1, .inl (nI t.2.2.1), .inl (nI t.2.2.2)] h Q := by
  obtain ⟨w1, w2, w3, w4, ⟨w5a, w5b, w5c⟩, w6, w7, w8⟩ := hW
  refine qX12_note _ _ _ hS ⟨fun z => K1 (Or.inl ?_), fun z => ?_⟩
  · rw [w5a, show (0 : Int32) = nI 0 from rfl, nI_eq (by omega) (by omega)] at z; exact z
  · have h0 : 0 < wl W := Nat.pos_of_ne_zero (fun e => z (by rw [w5a, e]; rfl))
    obtain ⟨n, hn⟩ : ∃ n, wl W = n + 1 := ⟨wl W - 1, by omega⟩
    have en : wl W - 1 = n := by omega
    have e2 : mI h 47 33 - 1 = nI n := by rw [w5a, hn]; exact nI_pred n
    unfold noNo at K1
    rw [en] at K1 K2
    obtain ⟨⟨g0, g1, g2, g3, g4, g5, g6⟩, okl⟩ := w5c n (by omega)
    have h6 : jN (wJ W n) ≤ 6 := okl.2.2.2.2.2.1
    have v12 := vp_in_nI (n := n) (N := 12) (by omega) (by omega)
    rw [e2, nI_clamp (show n < 2 ^ 31 by omega), g5]
    refine ⟨v12, fun z6 => ?_, fun z6 => K1 (Or.inr ?_)⟩
    · have hlt : jN (wJ W n) < 6 := by
        rw [show (6 : Int32) = nI 6 from rfl, nI_eq (by omega) (by omega)] at z6; omega
      have hst : (6 : Int32) * nI n + nI (jN (wJ W n)) = nI (6 * n + jN (wJ W n)) := by rw [show (6 : Int32) = nI 6 from rfl, pk_mul, nI_add]
      have v72 := vp_in_nI (n := 6 * n + jN (wJ W n)) (N := 72) (by omega) (by omega)
      rw [hst, nI_clamp (show 6 * n + jN (wJ W n) < 2 ^ 31 by omega)]
      refine ⟨v12, v72, fun h4 e4 => ⟨v72, fun h6' e6 => ⟨v72, fun h8 e8 => ?_⟩⟩⟩
      have n8 : mI h8 47 33 - 1 = nI n := by rw [e8, mI_SI_a (by omega), e6, mI_SI_a (by omega), e4, mI_SI_a (by omega)]; exact e2
      have c8 : mI h8 74 n = nI (jN (wJ W n)) := by rw [e8, mI_SI_a (by omega), e6, mI_SI_a (by omega), e4, mI_SI_a (by omega)]; exact g5
      rw [n8, nI_clamp (show n < 2 ^ 31 by omega), c8, nI_1]
      refine ⟨v12, v12, fun h11 e11 => ?_⟩
      have n11 : mI h11 47 33 - 1 = nI n := by rw [e11, mI_SI_a (by omega)]; exact n8
      rw [n11, nI_clamp (show n < 2 ^ 31 by omega)]
      have c11 : mI h11 74 n = nI (jN (wJ W n) + 1) := by rw [e11, mI_SI_s]
      rw [c11]
      have f : mFr2 (fun x k => (x = 74 ∧ k = n) ∨ ((75 ≤ x ∧ x ≤ 77) ∧ k = 6 * n + jN (wJ W n))) h h11 := by
        rw [e11, e8, e6, e4]
        exact (((mFr2.SI (A := fun x k => (x = 74 ∧ k = n) ∨ ((75 ≤ x ∧ x ≤ 77) ∧ k = 6 * n + jN (wJ W n))) (Or.inr ⟨by omega, rfl⟩)).tr (mFr2.SI (Or.inr ⟨by omega, rfl⟩))).tr (mFr2.SI (Or.inr ⟨by omega, rfl⟩))).tr (mFr2.SI (Or.inl ⟨rfl, rfl⟩))
      refine ⟨v12, K2 h0 hlt h11 (f.wk (fun x k z => by omega)) ⟨?_, ?_, ?_, w4, ⟨by rw [f.2 _ _ (fun z => by omega)]; exact w5a, w5b, fun i hi => ?_⟩, ?_, ?_, w8⟩⟩
      · exact mCh.fr f (fun a k q1 q2 z => by omega) (fun z => by omega) w1
      · exact soM.fr f (fun a k q1 q2 z => by omega) (fun z => by omega) w2
      · exact lwM.fr f (fun a k q z => by omega) w3
      · obtain ⟨⟨p0, p1, p2, p3, p4, p5, p6⟩, okl2⟩ := w5c i hi
        have lo : ∀ a k, 69 ≤ a → a ≤ 73 → mI h11 a k = mI h a k := fun a k q1 q2 => f.2 _ _ (fun z => by omega)
        by_cases e : i = n
        · subst e
          rw [show wJ (wNote W t) i = adN (wJ W i) t by rw [← en]; exact wNote_n]
          obtain ⟨a1, a2, a3, a4, a5, a6, a7⟩ := okl
          refine ⟨⟨by rw [lo _ _ (by omega) (by omega)]; exact p0, by rw [lo _ _ (by omega) (by omega)]; exact p1, by rw [lo _ _ (by omega) (by omega)]; exact p2, by rw [lo _ _ (by omega) (by omega)]; exact p3, by rw [lo _ _ (by omega) (by omega)]; exact p4, c11, fun k hk => ?_⟩, ⟨a1, a2, a3, a4, a5, by show jN (wJ W i) + 1 ≤ 6; omega, fun k hk => ?_⟩⟩
          · by_cases ek : k = jN (wJ W i)
            · subst ek
              have e9 : jT (adN (wJ W i) t) (jN (wJ W i)) = t := if_pos rfl
              rw [e9]
              refine ⟨?_, ?_, ?_⟩
              · rw [e11, mI_SI_a (by omega), e8, mI_SI_a (by omega), e6, mI_SI_a (by omega), e4, mI_SI_s]; exact e1
              · rw [e11, mI_SI_a (by omega), e8, mI_SI_a (by omega), e6, mI_SI_s]
              · rw [e11, mI_SI_a (by omega), e8, mI_SI_s]
            · have e9 : jT (adN (wJ W i) t) k = jT (wJ W i) k := if_neg ek
              have hk' : k < jN (wJ W i) := by have : k < jN (wJ W i) + 1 := hk; omega
              rw [e9]
              obtain ⟨r1, r2, r3⟩ := p6 k hk'
              exact ⟨by rw [f.2 _ _ (fun z => by omega)]; exact r1, by rw [f.2 _ _ (fun z => by omega)]; exact r2, by rw [f.2 _ _ (fun z => by omega)]; exact r3⟩
          · by_cases ek : k = jN (wJ W i)
            · subst ek
              have e9 : jT (adN (wJ W i) t) (jN (wJ W i)) = t := if_pos rfl
              rw [e9]; exact ok
            · have e9 : jT (adN (wJ W i) t) k = jT (wJ W i) k := if_neg ek
              have hk' : k < jN (wJ W i) := by have : k < jN (wJ W i) + 1 := hk; omega
              rw [e9]; exact a7 k hk'
        · have hj6 : jN (wJ W i) ≤ 6 := okl2.2.2.2.2.2.1
          rw [wNote_J (by omega)]
          refine ⟨⟨by rw [lo _ _ (by omega) (by omega)]; exact p0, by rw [lo _ _ (by omega) (by omega)]; exact p1, by rw [lo _ _ (by omega) (by omega)]; exact p2, by rw [lo _ _ (by omega) (by omega)]; exact p3, by rw [lo _ _ (by omega) (by omega)]; exact p4, by rw [f.2 _ _ (fun z => by omega)]; exact p5, fun k hk => ?_⟩, okl2⟩
          obtain ⟨r1, r2, r3⟩ := p6 k hk
          exact ⟨by rw [f.2 _ _ (fun z => by omega)]; exact r1, by rw [f.2 _ _ (fun z => by omega)]; exact r2, by rw [f.2 _ _ (fun z => by omega)]; exact r3⟩
      · obtain ⟨⟨b1, b2, b3, b4⟩, o⟩ := w6
        exact ⟨⟨by rw [f.2 _ _ (fun z => by omega)]; exact b1, by rw [f.2 _ _ (fun z => by omega)]; exact b2, by rw [f.2 _ _ (fun z => by omega)]; exact b3, by rw [f.2 _ _ (fun z => by omega)]; exact b4⟩, o⟩
      · rw [f.2 _ _ (fun z => by omega)]; exact w7
    · rw [show (6 : Int32) = nI 6 from rfl, nI_eq (by omega) (by omega)] at z6; exact z6
theorem m_hears (v1 v2 v3 : Int32) {W : aW} (hS : mSk h) (hW : mWo h W) (K1 : (¬ okHe (wm W) v1 v2 v3 ∨ noNo W) → Q (some (.inl (-1))) h)
    (K2 : okHe (wm W) v1 v2 v3 → 0 < wl W → jN (wJ W (wl W - 1)) < 6 → ∀ h', mFr2 (fun x _ => 74 ≤ x ∧ x ≤ 77) h h' → mWo h' (wNote W (heT v1 v2 v3)) → Q (some (.inl (nI (jN (wJ W (wl W - 1)) + 1)))) h') : mC G kX12_hears (d + 1) b [.inr (some 47), .inl v1, .inl v2, .inl v3] h Q := by
  have hU := hW.2.1
  have hm := hU.2.1
  refine qX12_hears v1 v2 v3 hS (m_isSounder v1 hS hU.1 hm (fun t => ⟨_, rfl, hS, fun _ => K1 (Or.inl (fun u => t u.1)), fun z => absurd rfl z⟩) (fun c hc ec => ⟨_, rfl, hS, fun z => absurd z (by decide), fun _ => ?_⟩))
  rw [f_in_eq, f_in_eq]
  refine ⟨fun z => K1 (Or.inl (fun u => u.2.1 z)), fun o2 => ⟨fun z => K1 (Or.inl (fun u => u.2.2 z)), fun o3 => ?_⟩⟩
  have ok : okHe (wm W) v1 v2 v3 := ⟨by rw [ec, nI_toI (by omega)]; omega, o2, o3⟩
  obtain ⟨okt, e1, e2, e3⟩ := okHe_t hm ok
  have main := m_note (G := G) (d := d) (b := (0, 0)) (h := h) (Q := fun r h3 => ∃ x4, r = some (.inl x4) ∧ mSk h3 ∧ Q (some (.inl x4)) h3) (t := heT v1 v2 v3) v1 (by rw [if_neg (show ¬ ((heT v1 v2 v3).1 = true) from fun z => Bool.noConfusion z)]; exact e1) hS hW okt (fun q => ⟨_, rfl, hS, K1 (Or.inr q)⟩) (fun q1 q2 h' f' s' => ⟨_, rfl, f'.1.sk hS, K2 ok q1 q2 h' f' s'⟩)
  rw [← e2, ← e3] at main
  exact main
theorem m_echo (v1 v2 : Int32) {W : aW} (hS : mSk h) (hW : mWo h W) (K1 : (¬ okEc v1 v2 ∨ noNo W) → Q (some (.inl (-1))) h)
    (K2 : okEc v1 v2 → 0 < wl W → jN (wJ W (wl W - 1)) < 6 → ∀ h', mFr2 (fun x _ => 74 ≤ x ∧ x ≤ 77) h h' → mWo h' (wNote W (ecT v1 v2)) → Q (some (.inl (nI (jN (wJ W (wl W - 1)) + 1)))) h') : mC G kX12_echo (d + 1) b [.inr (some 47), .inl v1, .inl v2] h Q := by
  refine qX12_echo v1 v2 hS ?_
  rw [f_dir, f_in_eq]
  refine ⟨fun z => K1 (Or.inl (fun u => u.1 z)), fun o1 => ⟨fun z => K1 (Or.inl (fun u => u.2 z)), fun o2 => ?_⟩⟩
  have ok : okEc v1 v2 := ⟨o1, o2⟩
  obtain ⟨okt, e1, e2⟩ := okEc_t (m := wm W) ok
  have ev : v1 - 10 = if (ecT v1 v2).1 then iI ((ecT v1 v2).2.1 - 10) else nI (ecT v1 v2).2.1 := by
    rw [if_pos (show (ecT v1 v2).1 = true from rfl)]
    have : v1 - 10 = nI (ecT v1 v2).2.1 - 10 := by rw [← e1]
    rw [this, ii_nat, show (10 : Int32) = iI 10 from rfl, ii_sub]
  have main := m_note (G := G) (d := d) (b := (0, 0)) (h := h) (Q := fun r h3 => ∃ x4, r = some (.inl x4) ∧ mSk h3 ∧ Q (some (.inl x4)) h3) (t := ecT v1 v2) (v1 - 10) ev hS hW okt (fun q => ⟨_, rfl, hS, K1 (Or.inr q)⟩) (fun q1 q2 h' f' s' => ⟨_, rfl, f'.1.sk hS, K2 ok q1 q2 h' f' s'⟩)
  rw [← e2] at main
  exact main
end
