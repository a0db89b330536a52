/-! coast -/
theorem wi416 {v : Int32} (e : ¬ f_X11_within v 4 16 = 0) : ∃ m : Nat, (4 ≤ m ∧ m ≤ 16) ∧ v = nI m := by
  have h1 := f_wiZ (v := v) 4 16 ⟨by omega, by omega⟩ ⟨by omega, by omega⟩
  have h2 : 4 ≤ v.toInt ∧ v.toInt ≤ 16 := Classical.byContradiction (fun z => e (h1.mpr z))
  obtain ⟨m, hm, em⟩ := nI_ex (x := v) (n := 17) (by omega) (by omega) (by omega)
  rw [em, nI_toI (by omega)] at h2
  exact ⟨m, by omega, em⟩
theorem wi416n {m : Nat} (h : 4 ≤ m ∧ m ≤ 16) : ¬ f_X11_within (nI m) 4 16 = 0 := by
  have h1 := f_wiZ (v := nI m) 4 16 ⟨by omega, by omega⟩ ⟨by omega, by omega⟩
  intro e
  have := h1.mp e
  rw [nI_toI (by omega)] at this
  omega
theorem L3 : (3 : Int32) = nI 3 := rfl
theorem L8 : (8 : Int32) = nI 8 := rfl
section
variable {G : mG} {d : Nat} {b : Nat × Nat} {b1 b2 : Nat} {h : mH} {Q : Option mV → mH → Prop}
set_option maxHeartbeats 1000000 in
theorem c11_coast (v1 : Int32) {W : aW} {I : Nat → Nat} {nt : Nat} {t : Nat → Nat} (hS : mSk h) (st : cSt h W I) (hT : tpX h nt t) (K1 : ¬ okCoN (wn W) nt v1 → Q (some (.inl (-1))) h)
    (K2 : ∀ n p, okCoN (wn W) nt v1 → v1 = nI n → n ≤ 16 → isBd t n p → ∀ h', mFr2 (fun x k => x = 9 ∧ k = 1) h h' → mI h' 9 1 = 0 → cSt h' W I → Q (some (.inl (-1000 - nI p))) h')
    (K3 : ∀ n, okCoN (wn W) nt v1 → v1 = nI n → n ≤ 16 → noBd t n → ∀ h', mSk h' → lwK (fun x k => aAd x k ∨ (x = 9 ∧ k = 1)) h h' → mN h' ≤ mN h + 9 → mI h' 8 7 = mI h 8 7 + 1 → mI h' 9 1 = 0 → cSt h' (wAdd W (tpC t n)) (iAdd W I (mN h)) → Q (some (.inl (nI (wn W)))) h') : mC G kX11_coast (d + 4) (b1 + 9, b2 + 5760) [.inr (some 8), .inl v1] h Q := by
  have hn8 := st.1.1.2.1
  have e33 := st.1.1.1
  obtain ⟨e91, hnt, htp⟩ := hT
  refine qX11_coast v1 hS (fun w1 hw1 => ⟨fun z => K1 (fun u => ?_), fun z => ?_⟩)
  · obtain ⟨m, em, hm, h2, -⟩ := u
    rw [em, if_neg (wi416n hm), and1_n (by omega), h2, if_neg (fun q => q rfl)] at hw1
    rw [hw1] at z; exact absurd z (by decide)
  · by_cases o1 : f_X11_within v1 4 16 = 0
    · rw [if_pos o1] at hw1; exact absurd hw1 z
    · rw [if_neg o1] at hw1
      obtain ⟨m, hm, em⟩ := wi416 o1
      have h2 : m % 2 = 0 := by
        rw [em, and1_n (by omega)] at hw1
        by_cases q : m % 2 = 0
        · exact q
        · have q' : ¬ nI (m % 2) = 0 := fun e => q ((nI_eq (b := 0) (by omega) (by omega)).mp e)
          rw [if_pos q'] at hw1
          exact absurd hw1 z
      rw [e33, e91, em, L3, pk_mul, L8]
      refine ⟨fun z8 => K1 (fun u => ?_), fun z8 => ⟨fun z3 => ?_, fun z3 => K1 (fun u => ?_)⟩⟩
      · rw [nI_leI (by omega) (by omega)] at z8
        obtain ⟨m', -, -, -, q, -⟩ := u
        omega
      · have hlt : wn W < 8 := by
          apply Classical.byContradiction; intro q
          exact z8 (nI_le (by omega) (by omega))
        have h3 : 3 * m ≤ nt := by rw [nI_leI (by omega) (by omega)] at z3; exact z3
        have okN : okCoN (wn W) nt v1 := ⟨m, em, hm, h2, hlt, h3⟩
        refine c9_bad (d := d + 1) (t := t) (m := nt) hS ⟨e91, hnt, htp⟩ hm h3 (fun p hp => ⟨_, rfl, hS, fun q h4 e4 => ⟨fun _ => ?_, fun e => absurd e q⟩, fun e => ?_⟩) (fun nb => ⟨_, rfl, hS, fun q => absurd rfl q, fun _ h6 e6 => ?_⟩)
        · have f4 : mFr2 (fun x k => x = 9 ∧ k = 1) h h4 := by rw [e4]; exact mFr2.SI ⟨rfl, rfl⟩
          exact K2 m p okN em hm.2 hp h4 f4 (by rw [e4, mI_SI_s]) (st.lo f4 (fun x k z => ⟨by omega, by unfold wl0; omega⟩))
        · have hp48 : p < 48 := by
            rcases hp with ⟨i, hi, e2, -⟩ | ⟨-, i, hi, -, e2, -⟩
            · unfold bdT at e2
              split at e2
              · cases e2; omega
              · split at e2
                · cases e2; omega
                · split at e2
                  · cases e2; omega
                  · cases e2
            · omega
          exact absurd e (nI_nm1 (by omega))
        · have e6' : mI h6 33 1 = nI (wn W) := by rw [e6, mI_Al, if_neg (by have := hS.2.2.1.1; omega)]; exact e33
          rw [e6']
          have h93 : 93 ≤ mN h := Nat.le_of_succ_le hS.2.2.1.1
          refine c1_init (d := d + 2) (b1 := 0) (b2 := 0) hS e6 (fun h8 g8 hS8 nw8 n8 t8 f0 f1 fk fj => ⟨rfl, hS8, t8, ?_⟩)
          have s8 := st.gr hS hS8 g8 nw8
          have hne : ∀ c, c < wn W → I c ≠ mN h := fun c hc e => by
            have := (st.1.1.2.2 c hc).2.1
            have := tag_lt hS (a := I c) (by omega)
            omega
          have l8 : ∀ x k, x < 93 → mI h8 x k = mI h x k := fun x k hx => by rw [(g8.2 x (by omega)).2.2.2]
          have tp8 : ∀ hh, (∀ x k, x < 93 → mI hh x k = mI h8 x k) → tpX hh nt t := fun hh q => ⟨by rw [q _ _ (by omega), l8 _ _ (by omega)]; exact e91, hnt, fun j hj => ⟨(htp j hj).1, by rw [q _ _ (by omega), l8 _ _ (by omega)]; exact (htp j hj).2⟩⟩
          refine mloop (W := fun i h9 => mW G kX11_coast (d + 4) (b1, b2) 87 [some (.inr (some 8)), some (.inl (nI m)), none, some (.inl (-1)), some (.inr (some (mN h))), some (.inl (nI i))] [] h9 Q)
            (P := fun i h9 => mFr2 (fun x _ => x = mN h + 6 ∨ x = mN h + 7 ∨ x = mN h + 8) h8 h9 ∧ ∀ i', i' < i → mI h9 (mN h + 6) i' = nI (t (2 * i')) ∧ mI h9 (mN h + 7) i' = nI (t (2 * i' + 1)) ∧ mI h9 (mN h + 8) i' = nI (t (2 * m + i'))) m ?_ ?_ 0 h8 (by omega) ⟨mFr2.rf, fun i' z => by omega⟩
          · rintro i h9 hi ⟨f9, c9⟩ ih
            have hS9 := f9.1.sk hS8
            have t9 : mT h9 (mN h) = 2 := by rw [f9.1.2.1]; exact t8
            have lo9 : ∀ x k, x < 93 → mI h9 x k = mI h8 x k := fun x k hx => f9.2 _ _ (fun z => by omega)
            have v16 := vp_in_nI (n := i) (N := 16) (by omega) (by omega)
            refine qX11_coast_87 _ _ (mN h) _ t9 hS9 ⟨fun z => absurd z (nI_ge hi (by omega)), fun _ => ?_⟩
            rw [L2, pk_mul, pk_mul, nI_add, nI_1, nI_1, nI_clamp (show i < 2 ^ 31 by omega)]
            refine c9_at (t := t) hS9 (tp8 h9 lo9) (by omega) ⟨_, rfl, hS9, t9, v16, fun h10 e10 => ?_⟩
            have lo10 : ∀ x k, x < 93 → mI h10 x k = mI h8 x k := fun x k hx => by rw [e10, mI_SI_a (by omega)]; exact lo9 x k hx
            have hS10 : mSk h10 := by rw [e10]; exact sk_SI hS9
            have t10 : mT h10 (mN h) = 2 := by rw [e10]; exact t9
            refine c9_at (t := t) hS10 (tp8 h10 lo10) (by omega) ⟨_, rfl, hS10, t10, v16, fun h11 e11 => ?_⟩
            have lo11 : ∀ x k, x < 93 → mI h11 x k = mI h8 x k := fun x k hx => by rw [e11, mI_SI_a (by omega)]; exact lo10 x k hx
            have hS11 : mSk h11 := by rw [e11]; exact sk_SI hS10
            have t11 : mT h11 (mN h) = 2 := by rw [e11]; exact t10
            refine c9_at (t := t) hS11 (tp8 h11 lo11) (by omega) ⟨_, rfl, hS11, t11, v16, fun h12 e12 => ?_⟩
            rw [e12, e11, e10]
            refine ih _ ⟨((f9.tr (mFr2.SI (Or.inl rfl))).tr (mFr2.SI (Or.inr (Or.inl rfl)))).tr (mFr2.SI (Or.inr (Or.inr rfl))), fun i' hi' => ?_⟩
            by_cases e : i' = i
            · subst e
              rw [mI_SI_a (by omega), mI_SI_a (by omega), mI_SI_s, mI_SI_a (by omega), mI_SI_s, mI_SI_s]
              exact ⟨rfl, rfl, rfl⟩
            · rw [mI_SI_k e, mI_SI_k e, mI_SI_k e, mI_SI_k e, mI_SI_k e, mI_SI_k e, mI_SI_k e, mI_SI_k e, mI_SI_k e]
              exact c9 i' (by omega)
          · rintro h9 ⟨f9, c9⟩
            have hS9 := f9.1.sk hS8
            have t9 : mT h9 (mN h) = 2 := by rw [f9.1.2.1]; exact t8
            have s9 : cSt h9 W I := s8.co hS8 t8 h93 hne f9 (fun x k z => by
              rcases z with z | z | z
              · exact ⟨6, by omega, z⟩
              · exact ⟨7, by omega, z⟩
              · exact ⟨8, by omega, z⟩)
            have o9 : ∀ x k, x ≠ mN h + 6 → x ≠ mN h + 7 → x ≠ mN h + 8 → mI h9 x k = mI h8 x k := fun x k q1 q2 q3 => f9.2 _ _ (fun z => by omega)
            have nc : nwC h9 (mN h) (wn W) (tpC t m) := ⟨t9, h93, by rw [o9 _ _ (by omega) (by omega) (by omega)]; exact f0, ⟨by rw [o9 _ _ (by omega) (by omega) (by omega)]; exact f1, fun i hi => c9 i hi⟩, tpC_ok hm h2 nb, fun j k hj => by rw [o9 _ _ (by omega) (by omega) (by omega)]; exact fj j k (by omega) (by omega), by rw [o9 _ _ (by omega) (by omega) (by omega)]; exact fk 10 (by omega), by rw [o9 _ _ (by omega) (by omega) (by omega)]; exact fk 11 (by omega)⟩
            refine qX11_coast_87 _ _ (mN h) _ t9 hS9 ⟨fun _ => c11_addCoast hS9 s9 hlt nc hne (fun h10 hS10 n10 t10 l10 e10 c10 s10 => ⟨rfl, hS10, by rw [t10]; exact t9, fun h11 e11 => ⟨fun q => absurd rfl q, fun _ => ?_⟩⟩), fun z => absurd (nI_le (Nat.le_refl _) (by omega)) z⟩
            have f11 : mFr2 (fun x k => x = 9 ∧ k = 1) h10 h11 := by rw [e11]; exact mFr2.SI ⟨rfl, rfl⟩
            have e12 : mI h11 33 1 - 1 = nI (wn W) := by rw [f11.2 _ _ (by omega), e10]; exact nI_pred _
            rw [e12]
            refine K3 m okN em hm.2 nb h11 (f11.1.sk hS10) ?_ ?_ ?_ (by rw [e11, mI_SI_s]) (s10.lo f11 (fun x k z => ⟨by omega, by unfold wl0; omega⟩))
            · refine (((g8.lk hS).tr (f9.lk.wk (fun x k hx z => by omega))).tr (l10.wk (fun x k _ z => Or.inl z))).tr (f11.lk.wk (fun x k _ z => Or.inr z))
            · rw [f11.1.1, n10, f9.1.1, n8]; exact Nat.le_refl _
            · rw [f11.2 _ _ (by omega), c10, f9.2 _ _ (by omega), l8 _ _ (by omega)]
      · obtain ⟨m', em', hm', -, -, q⟩ := u
        rw [em, nI_eq (by omega) (by omega)] at em'
        exact z3 (nI_le (by omega) (by omega))
theorem m_coast (v1 : Int32) {W : aW} {nt : Nat} {t : Nat → Nat} (hS : mSk h) (hW : mWo h W) (hT : tpM h nt t) (K1 : ¬ okCoN (wn W) nt v1 → Q (some (.inl (-1))) h)
    (K2 : ∀ n p, okCoN (wn W) nt v1 → v1 = nI n → n ≤ 16 → isBd t n p → ∀ h', mFr2 (fun x k => (48 ≤ x ∧ x ≤ 52) ∨ (x = 47 ∧ (k = 0 ∨ k = 12))) h h' → mI h' 47 12 = 0 → mWo h' W → Q (some (.inl (-1000 - nI p))) h')
    (K3 : ∀ n, okCoN (wn W) nt v1 → v1 = nI n → n ≤ 16 → noBd t n → ∀ h', mFr2 (fun x k => (48 ≤ x ∧ x ≤ 52) ∨ (x = 47 ∧ (k = 0 ∨ k = 12))) h h' → mI h' 47 12 = 0 → mWo h' (wAdd W (tpC t n)) → Q (some (.inl (nI (wn W)))) h') : mC G kX12_coast (d + 3) b [.inr (some 47), .inl v1] h Q := by
  have hn8 := hW.1.2.1
  have e47 := hW.1.1
  obtain ⟨e91, hnt, htp⟩ := hT
  refine qX12_coast v1 hS ?_
  rw [f_in_eq, e47, e91]
  refine ⟨fun z => K1 (fun u => ?_), fun o1 => ?_⟩
  · obtain ⟨m, em, hm, -⟩ := u
    rw [em] at z; exact wi416n hm z
  · obtain ⟨m, hm, em⟩ := wi416 o1
    rw [em, rem2_n (by omega), L3, pk_mul, L8]
    have e1 : nI (m % 2) = 1 ↔ m % 2 = 1 := nI_eq (b := 1) (by omega) (by omega)
    rw [e1, nI_eq (by omega) (by omega), nI_leI (by omega) (by omega)]
    refine ⟨fun z => K1 (fun u => ?_), fun z2 => ⟨fun z8 => K1 (fun u => ?_), fun z8 => ⟨fun h3 h1 e1 => ?_, fun z3 => K1 (fun u => ?_)⟩⟩⟩
    · obtain ⟨m', em', hm', q, -⟩ := u
      rw [em, nI_eq (by omega) (by omega)] at em'
      omega
    · obtain ⟨m', -, -, -, q, -⟩ := u
      omega
    · have hlt : wn W < 8 := by omega
      have okN : okCoN (wn W) nt v1 := ⟨m, em, hm, by omega, hlt, h3⟩
      have f1 : mFr2 (fun x k => x = 47 ∧ k = 12) h h1 := by rw [e1]; exact mFr2.SI ⟨rfl, rfl⟩
      have hS1 := f1.1.sk hS
      have hW1 : mWo h1 W := mWo.fr f1 (fun a k z q => by unfold dM at z; omega) hW
      have keep : ∀ h2, mFr2 (aRng (wn W)) h1 h2 → mWo h2 W := fun h2 f2 => by
        obtain ⟨w1, w2, w3, w4, w5, w6, w7, w8⟩ := hW1
        refine ⟨⟨?_, w1.2.1, fun c hc => ?_⟩, soM.fr f2 (fun a k q1 q2 z => by unfold aRng at z; omega) (fun z => by unfold aRng at z; omega) w2, lwM.fr f2 (fun a k q z => by unfold aRng at z; omega) w3, w4, lgM.fr f2 (fun a k q1 q2 z => by unfold aRng at z; omega) (fun z => by unfold aRng at z; omega) w5, ?_, ?_, w8⟩
        · rw [f2.2 _ _ (fun z => by unfold aRng at z; omega)]; exact w1.1
        · obtain ⟨⟨c1, c2⟩, ok, la⟩ := w1.2.2 c hc
          have := ok.1.2.1
          refine ⟨⟨?_, fun i hi => ?_⟩, ok, mLa.fr f2 (fun k z => by unfold aRng at z; omega) la⟩
          · rw [f2.2 _ _ (fun z => by unfold aRng at z; omega)]; exact c1
          · rw [f2.2 _ _ (fun z => by unfold aRng at z; omega), f2.2 _ _ (fun z => by unfold aRng at z; omega), f2.2 _ _ (fun z => by unfold aRng at z; omega)]; exact c2 i hi
        · obtain ⟨⟨b1, b2, b3, b4⟩, o⟩ := w6
          exact ⟨⟨by rw [f2.2 _ _ (fun z => by unfold aRng at z; omega)]; exact b1, by rw [f2.2 _ _ (fun z => by unfold aRng at z; omega)]; exact b2, by rw [f2.2 _ _ (fun z => by unfold aRng at z; omega)]; exact b3, by rw [f2.2 _ _ (fun z => by unfold aRng at z; omega)]; exact b4⟩, o⟩
        · rw [f2.2 _ _ (fun z => by unfold aRng at z; omega)]; exact w7
      refine m_firstWrong (t := t) (m := nt) hS1 (fun j hj => ⟨(htp j hj).1, by rw [f1.2 _ _ (by omega)]; exact (htp j hj).2⟩) hnt hlt hW1.1.1 hm h3 (fun p h2 f2 hp => ⟨_, rfl, f2.1.sk hS1, fun e => ?_, fun _ => ?_⟩) (fun h2 f2 nb e48 c2 => ⟨_, rfl, f2.1.sk hS1, fun _ => ?_, fun q => absurd rfl q⟩)
      · have hp48 : p < 48 := by
          rcases hp with ⟨i, hi, e2, -⟩ | ⟨-, i, hi, -, e2, -⟩
          · unfold bdT at e2
            split at e2
            · cases e2; omega
            · split at e2
              · cases e2; omega
              · split at e2
                · cases e2; omega
                · cases e2
          · omega
        exact absurd e (nI_nm1 (by omega))
      · exact K2 m p okN em hm.2 hp h2 ((f1.wk (fun x k z => by omega)).tr (f2.wk (fun x k z => by unfold aRng at z; omega))) (by rw [f2.2 _ _ (fun z => by unfold aRng at z; omega), e1, mI_SI_s]) (keep h2 f2)
      · have hW2 := keep h2 f2
        have hS2 := f2.1.sk hS1
        rw [hW2.1.1]
        have ok := tpC_ok hm (by omega) nb
        have hC : mCoM h2 (wn W) (tpC t m) := ⟨e48, fun i hi => c2 i hi⟩
        refine m_laysLand (d := d + 1) hS2 hlt hC ok.sm (fun h4 f4 la4 => ⟨rfl, f4.1.sk hS2, fun h5 e5 => ?_⟩)
        have e4 : mI h4 47 0 = nI (wn W) := by rw [f4.2 _ _ (fun z => by unfold aIsl at z; omega)]; exact hW2.1.1
        rw [e4, nI_1] at e5
        have e6 : mI h5 47 0 - 1 = nI (wn W) := by rw [e5, mI_SI_s]; exact nI_pred _
        rw [e6]
        have f5 : mFr2 (fun x k => aIsl (wn W) x k ∨ (x = 47 ∧ k = 0)) h2 h5 := (f4.wk (fun x k z => Or.inl z)).tr (by rw [e5]; exact mFr2.SI (Or.inr ⟨rfl, rfl⟩))
        refine K3 m okN em hm.2 nb h5 (((f1.wk (fun x k z => by omega)).tr (f2.wk (fun x k z => by unfold aRng at z; omega))).tr (f5.wk (fun x k z => by unfold aIsl at z; omega))) (by rw [f5.2 _ _ (fun z => by unfold aIsl at z; omega), f2.2 _ _ (fun z => by unfold aRng at z; omega), e1, mI_SI_s]) ?_
        obtain ⟨w1, w2, w3, w4, w5, w6, w7, w8⟩ := hW2
        refine ⟨⟨by rw [e5, mI_SI_s]; rfl, by show wn W + 1 ≤ 8; omega, fun c hc => ?_⟩, soM.fr f5 (fun a k q1 q2 z => by unfold aIsl at z; omega) (fun z => by unfold aIsl at z; omega) w2, lwM.fr f5 (fun a k q z => by unfold aIsl at z; omega) w3, w4, lgM.fr f5 (fun a k q1 q2 z => by unfold aIsl at z; omega) (fun z => by unfold aIsl at z; omega) w5, ?_, ?_, w8⟩
        · by_cases e : c = wn W
          · subst e
            rw [wAdd_n]
            refine ⟨mCoM.fr f5 (fun a k q1 q2 z => by unfold aIsl at z; omega) hC, ok, fun k hk => ?_⟩
            rw [e5, mI_SI_a (by omega)]; exact la4 k hk
          · have hc' : c < wn W := by have : c < wn W + 1 := hc; omega
            rw [wAdd_C e]
            obtain ⟨c1, c2, c3⟩ := w1.2.2 c hc'
            refine ⟨mCoM.fr f5 (fun a k q1 q2 z => by unfold aIsl at z; omega) c1, c2, fun k hk => ?_⟩
            rw [f5.2 _ _ (fun z => by unfold aIsl at z; omega)]; exact c3 k hk
        · obtain ⟨⟨b1, b2, b3, b4⟩, o⟩ := w6
          exact ⟨⟨by rw [f5.2 _ _ (fun z => by unfold aIsl at z; omega)]; exact b1, by rw [f5.2 _ _ (fun z => by unfold aIsl at z; omega)]; exact b2, by rw [f5.2 _ _ (fun z => by unfold aIsl at z; omega)]; exact b3, by rw [f5.2 _ _ (fun z => by unfold aIsl at z; omega)]; exact b4⟩, o⟩
        · rw [f5.2 _ _ (fun z => by unfold aIsl at z; omega)]; exact w7
    · obtain ⟨m', em', hm', -, -, q⟩ := u
      rw [em, nI_eq (by omega) (by omega)] at em'
      omega
end
