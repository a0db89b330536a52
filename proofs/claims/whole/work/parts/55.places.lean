/-! placesAt, possible, isPossible (class) -/
def aPl : Nat → Nat → Prop := fun x k => aF1 x k ∨ x = 31 ∨ x = 32 ∨ (x = 28 ∧ 10 ≤ k)
/-- a stamp is no later than the count of changes -/
def stB (s c : Int32) : Prop := ∃ i j, s = nI i ∧ c = nI j ∧ i ≤ j ∧ j < 100000
theorem stB.rf {s c : Int32} (h : stB s c) : stB c c := by
  obtain ⟨i, j, e1, e2, h1, h2⟩ := h
  exact ⟨j, j, e2, e2, Nat.le_refl _, h2⟩
def plC (h : mH) (W : aW) : Prop := (mI h 28 12 = mI h 8 7 → ∃ c i, c < wn W ∧ i < wl W ∧ mI h 28 10 = nI c ∧ mI h 28 11 = nI i ∧ ∀ x y, x < 32 → y < 32 → bt (mI h 32 y) x = thB W c i (32 * y + x)) ∧ stB (mI h 28 12) (mI h 8 7)
theorem plC.fr {A : Nat → Nat → Prop} {h h' : mH} {W : aW} (f : mFr2 A h h') (h1 : ¬ A 8 7) (h2 : ∀ k, 10 ≤ k → ¬ A 28 k) (h3 : ∀ k, ¬ A 32 k) (p : plC h W) : plC h' W := by
  refine ⟨fun z => ?_, by rw [f.2 _ _ h1, f.2 _ _ (h2 12 (by omega))]; exact p.2⟩
  rw [f.2 _ _ h1, f.2 _ _ (h2 12 (by omega))] at z
  obtain ⟨c, i, p1, p2, p3, p4, p5⟩ := p.1 z
  refine ⟨c, i, p1, p2, by rw [f.2 _ _ (h2 10 (by omega))]; exact p3, by rw [f.2 _ _ (h2 11 (by omega))]; exact p4, fun x y hx hy => ?_⟩
  rw [f.2 _ _ (h3 _)]; exact p5 x y hx hy
theorem aGb_pl {h : mH} {a c x k : Nat} (ha : 93 ≤ a) (z : aGb h a c x k) : aPl x k := by
  unfold aPl aF1
  rcases z with z | z | z | ⟨v, z1, z2, z3, z4⟩
  · omega
  · omega
  · rcases z with z | z | z
    · exact Or.inl (Or.inr (Or.inr z))
    · omega
    · omega
  · omega
theorem ask_b2i (v : Int32) {n : Nat} (hn : n < 32) : ((m_ushr v (nI n)) &&& 1) = b2i (bt v n) := by
  cases hb : bt v n with
  | true => exact (bt_ask v hn).mpr hb
  | false => exact (bt_ask0 v hn).mpr hb
theorem cnt_add (p : Nat → Bool) (a : Nat) : ∀ b, cnt p (a + b) = cnt p a + cnt (fun i => p (a + i)) b
  | 0 => rfl
  | b + 1 => by
    have := cnt_add p a b
    show cnt p (a + b) + (if p (a + b) then 1 else 0) = cnt p a + (cnt (fun i => p (a + i)) b + (if p (a + b) then 1 else 0))
    omega
theorem cnt_rows (p : Nat → Bool) : ∀ n, cnt p (32 * n) = smN (fun y => cnt (fun x => p (32 * y + x)) 32) n
  | 0 => rfl
  | n + 1 => by
    rw [show 32 * (n + 1) = 32 * n + 32 by omega, cnt_add, cnt_rows p n]; rfl
theorem smN_cong {f g : Nat → Nat} : ∀ n, (∀ i, i < n → f i = g i) → smN f n = smN g n
  | 0, _ => rfl
  | n + 1, h => by
    show smN f n + f n = smN g n + g n
    rw [smN_cong n (fun i hi => h i (by omega)), h n (by omega)]
section
variable {G : mG} {d : Nat} {b : Nat × Nat} {h : mH} {Q : Option mV → mH → Prop}
set_option maxHeartbeats 1000000 in
theorem c6_placesAt {c i : Nat} {W : aW} {I : Nat → Nat} (hS : mSk h) (st : cSt h W I) (pc : plC h W) (hc : c < wn W) (hi : i < wl W)
    (K : ∀ h', mFr2 aPl h h' → cSt h' W I → plC h' W → flK h h' W I → (∀ x y, x < 32 → y < 32 → bt (mI h' 32 y) x = thB W c i (32 * y + x)) → Q (some (.inr (some 32))) h') : mC G kX6_placesAt (d + 6) b [.inr (some 28), .inr (some (I c)), .inl (nI i), .inl (mI h 8 7)] h Q := by
  have ta := (st.1.1.2.2 c hc).2.1
  have ha := (st.1.2.1 c hc).1
  have ec := (st.1.2.1 c hc).2
  have hn8 := st.1.1.2.1
  have hl12 := st.1.2.2.2.2.2.2.1.2.1
  have hs3 := st.1.2.2.2.2.2.2.2.1.2
  have okO := wO_okX st.1 c
  have fin : ∀ h5, mFr2 aPl h h5 → cSt h5 W I → flK h h5 W I → fol h5 W I c → rwB h5 31 0 (ws W) (fun x y => gbV W c (wl W - 1 - i) (32 * y + x)) → mI h5 28 10 = nI c → mI h5 28 11 = nI i → mI h5 28 12 = mI h 8 7 → mW G kX6_placesAt (d + 6) b 59 [some (.inr (some 28)), some (.inr (some (I c))), some (.inl (nI i)), none, some (.inl 0), none, none] [] h5 Q := by
    intro h5 f5 s5 k5 o5 r5 e10 e11 e12
    have hS5 := f5.1.sk hS
    have ta5 : mT h5 (I c) = 2 := by rw [f5.1.2.1]; exact ta
    refine mloop (W := fun y h6 => mW G kX6_placesAt (d + 6) b 59 [some (.inr (some 28)), some (.inr (some (I c))), some (.inl (nI i)), none, some (.inl (nI y)), none, none] [] h6 Q)
      (P := fun y h6 => mFr2 (fun x _ => x = 32) h5 h6 ∧ ∀ x y', x < 32 → y' < y → bt (mI h6 32 y') x = thB W c i (32 * y' + x)) 32 ?_ ?_ 0 h5 (by omega) ⟨mFr2.rf, fun x y' _ z => by omega⟩
    · rintro y h6 hy ⟨f6, c6⟩ ih
      have hS6 := f6.1.sk hS5
      refine qX6_placesAt_59 (I c) _ _ (by rw [f6.1.2.1]; exact ta5) hS6 ⟨fun z => absurd z (nI_ge (b := 32) hy (by omega)), fun _ => ⟨vp_in_nI hy (by omega), fun h7 e7 => ?_⟩⟩
      rw [nI_clamp (by omega)] at e7
      refine mloop (W := fun w h8 => mW G kX6_placesAt (d + 6) b 77 [some (.inr (some 28)), some (.inr (some (I c))), some (.inl (nI i)), none, some (.inl (nI y)), some (.inl (nI w)), none] [] h8 Q)
        (P := fun w h8 => mFr2 (fun x _ => x = 32) h5 h8 ∧ (∀ x y', x < 32 → y' < y → bt (mI h8 32 y') x = thB W c i (32 * y' + x)) ∧ ∀ x, x < 32 → (bt (mI h8 32 y) x = true ↔ ∃ w', w' < w ∧ wF W c i (32 * y + x) ≤ w' ∧ gbV W c (wl W - 1 - i) (32 * y + x) ≤ ws W - w')) (ws W + 1) ?_ ?_ 0 h7 (by omega) ⟨?_, ?_, ?_⟩
      · rintro w h8 hw ⟨f8, c8, p8⟩ ih8
        have hS8 := f8.1.sk hS5
        have ta8 : mT h8 (I c) = 2 := by rw [f8.1.2.1]; exact ta5
        have lo : ∀ x k, x ≠ 32 → mI h8 x k = mI h5 x k := fun x k q => f8.2 _ _ q
        have es8 : mI h8 28 2 = nI (ws W) := by rw [lo _ _ (by omega)]; exact s5.1.2.2.2.2.2.2.2.1.1
        have er : (nI i * 4 + nI w) * 32 + nI y = nI (i * 128 + 32 * w + y) := by
          rw [L4, pk_mul, nI_add, L32, pk_mul, nI_add]; congr 1; omega
        have er2 : (nI (ws W) - nI w) * 32 + nI y = nI (32 * (ws W - w) + y) := by
          rw [pk_sub (by omega), L32, pk_mul, nI_add]; congr 1; omega
        refine qX6_placesAt_77 (I c) _ _ _ ta8 hS8 ⟨fun z => absurd z (by rw [es8]; exact nI_nlt (by omega) (by omega)), fun _ => qX1_rowsAt (I c) _ _ ta8 hS8 ⟨_, rfl, hS8, ta8, ?_⟩⟩
        rw [er, es8, er2, nI_clamp (show y < 2 ^ 31 by omega), nI_clamp (show i * 128 + 32 * w + y < 2 ^ 31 by omega), nI_clamp (show 32 * (ws W - w) + y < 2 ^ 31 by omega)]
        refine ⟨vp_in_nI (by omega) (by omega), vp_in_nI hy (by omega), vp_in_nI (by omega) (by omega), vp_in_nI hy (by omega), fun h9 e9 => ?_⟩
        rw [nI_1, e9]
        refine ih8 _ ⟨f8.tr (mFr2.SI rfl), fun x y' q1 q2 => ?_, fun x hx => ?_⟩
        · rw [mI_SI_k (by omega)]; exact c8 x y' q1 q2
        · rw [mI_SI_s, bt_or, bt_and, lo (I c + 5) _ (by omega), lo 31 _ (by omega), o5 i hi w x y (by omega) hx hy, show 32 * (ws W - w) + y = 0 + 32 * (ws W - w) + y by omega, r5 (ws W - w) x y (by omega) hx hy, Bool.or_eq_true, Bool.and_eq_true, p8 x hx, decide_eq_true_iff, decide_eq_true_iff]
          constructor
          · rintro (⟨w', q1, q2, q3⟩ | ⟨q2, q3⟩)
            · exact ⟨w', by omega, q2, q3⟩
            · exact ⟨w, by omega, q2, q3⟩
          · rintro ⟨w', q1, q2, q3⟩
            rcases (show w' < w ∨ w' = w by omega) with q | q
            · exact Or.inl ⟨w', q, q2, q3⟩
            · rw [q] at q2 q3; exact Or.inr ⟨q2, q3⟩
      · rintro h8 ⟨f8, c8, p8⟩
        have es8 : mI h8 28 2 = nI (ws W) := by rw [f8.2 _ _ (by omega)]; exact s5.1.2.2.2.2.2.2.2.1.1
        refine qX6_placesAt_77 (I c) _ _ _ (by rw [f8.1.2.1]; exact ta5) (f8.1.sk hS5) ⟨fun _ => ?_, fun z => absurd (by rw [es8]; exact nI_lt (by omega) (by omega)) z⟩
        rw [nI_1]
        refine ih h8 ⟨f8, fun x y' q1 q2 => ?_⟩
        by_cases e : y' = y
        · rw [e, thB_gb okO hl12 hs3 hi (by omega)]
          have hp := p8 x q1
          by_cases q : wF W c i (32 * y + x) + gbV W c (wl W - 1 - i) (32 * y + x) ≤ ws W
          · rw [decide_eq_true q]
            exact hp.mpr ⟨wF W c i (32 * y + x), by omega, Nat.le_refl _, by omega⟩
          · rw [decide_eq_false q]
            cases hb : bt (mI h8 32 y) x with
            | false => rfl
            | true =>
              obtain ⟨w', t1, t2, t3⟩ := hp.mp hb
              omega
        · exact c8 x y' q1 (by omega)
      · rw [e7]; exact f6.tr (mFr2.SI rfl)
      · intro x y' q1 q2
        rw [e7, mI_SI_k (by omega)]; exact c6 x y' q1 q2
      · intro x hx
        rw [e7, mI_SI_s, bt_0]
        constructor
        · intro z; cases z
        · rintro ⟨w', q1, -⟩; omega
    · rintro h6 ⟨f6, c6⟩
      refine qX6_placesAt_59 (I c) _ _ (by rw [f6.1.2.1]; exact ta5) (f6.1.sk hS5) ⟨fun _ => K h6 (f5.tr (f6.wk (fun x k z => by unfold aPl; omega))) (s5.ca (f6.wk (fun x k z => by unfold aCa; omega))) ⟨fun _ => ⟨c, i, hc, hi, by rw [f6.2 _ _ (by omega)]; exact e10, by rw [f6.2 _ _ (by omega)]; exact e11, fun x y hx hy => c6 x y hx hy⟩, by rw [f6.2 28 12 (by omega), e12, f6.2 8 7 (by omega), f5.2 8 7 (by unfold aPl aF1 aEr aEar; omega)]; exact pc.2.rf⟩ (k5.tr (flK.lo s5.1 f6 (fun x k q z => by omega))) (fun x y hx hy => c6 x y hx hy), fun z => absurd (by decide) z⟩
  have run : ∀ h3, h3 = mSI (mSI (mSI h 28 10 (mI h (I c) 0)) 28 11 (nI i)) 28 12 (mI h 8 7) → mC G kX6_follow (d + 5) (0, 0) [.inr (some 28), .inr (some (I c))] h3 (fun r h4 => r = none ∧ mSk h4 ∧ mT h4 (I c) = 2 ∧ mC G kX6_goBackTo (d + 5) (0, 0) [.inr (some 28), .inr (some (I c)), .inl (nI i)] h4 (fun r h5 => r = none ∧ mSk h5 ∧ mT h5 (I c) = 2 ∧ mW G kX6_placesAt (d + 6) b 59 [some (.inr (some 28)), some (.inr (some (I c))), some (.inl (nI i)), none, some (.inl 0), none, none] [] h5 Q)) := by
    intro h3 e3
    have f3 : mFr2 (fun x k => x = 28 ∧ 10 ≤ k) h h3 := by
      rw [e3]
      exact ((mFr2.SI ⟨rfl, by omega⟩).tr (mFr2.SI ⟨rfl, by omega⟩)).tr (mFr2.SI ⟨rfl, by omega⟩)
    have hS3 := f3.1.sk hS
    have s3 : cSt h3 W I := st.ca (f3.wk (fun x k z => by unfold aCa; omega))
    have e10 : mI h3 28 10 = nI c := by rw [e3, mI_SI_k (by omega), mI_SI_k (by omega), mI_SI_s]; exact ec
    have e11 : mI h3 28 11 = nI i := by rw [e3, mI_SI_k (by omega), mI_SI_s]
    refine c6_fol hS3 s3 hc (fun h4 f4 s4 o4 k4 => ⟨rfl, f4.1.sk hS3, by rw [f4.1.2.1, f3.1.2.1]; exact ta, ?_⟩)
    have hS4 := f4.1.sk hS3
    have n4 : ∀ k, 10 ≤ k → mI h4 28 k = mI h3 28 k := fun k _ => f4.2 _ _ (aFl_lo ha (by omega) (by omega) (by unfold aEr aEar; omega))
    refine c6_goBackTo hS4 s4 hc o4 hi (fun h5 f5 s5 o5 k5 r5 => ⟨rfl, f5.1.sk hS4, by rw [f5.1.2.1, f4.1.2.1, f3.1.2.1]; exact ta, ?_⟩)
    have n5 : ∀ k, 10 ≤ k → mI h5 28 k = mI h4 28 k := fun k _ => f5.2 _ _ (fun z => by
      rcases z with z | z | z | ⟨v, z1, z2, z3, z4⟩
      · omega
      · omega
      · unfold aMid aEr aEar at z; omega
      · omega)
    exact fin h5 (((f3.wk (fun x k z => Or.inr (Or.inr (Or.inr z)))).tr (f4.wk (fun x k z => Or.inl (aFl_f1 ha z)))).tr (f5.wk (fun x k z => aGb_pl ha z))) s5 (((flK.lo st.1 f3 (fun x k q z => by omega)).tr k4).tr k5) o5 r5 (by rw [n5 _ (by omega), n4 _ (by omega)]; exact e10) (by rw [n5 _ (by omega), n4 _ (by omega)]; exact e11) (by rw [n5 _ (by omega), n4 _ (by omega), e3, mI_SI_s])
  refine qX6_placesAt (I c) _ _ ta hS ⟨fun z h1 e1 h2 e2 h3 e3 => run h3 (by rw [e3, e2, e1]), fun z1 => ⟨fun z h1 e1 h2 e2 h3 e3 => run h3 (by rw [e3, e2, e1]), fun z2 => ⟨fun z3 => ?_, fun z h1 e1 h2 e2 h3 e3 => run h3 (by rw [e3, e2, e1])⟩⟩⟩
  obtain ⟨c', i', p1, p2, p3, p4, p5⟩ := pc.1 z3
  rw [z1, ec, nI_eq (by omega) (by omega)] at p3
  rw [z2, nI_eq (by omega) (by omega)] at p4
  subst p3; subst p4
  exact K h mFr2.rf st pc flK.rf p5
theorem within_n {v : Int32} {n : Nat} (hn : n < 1000) : f_X11_within v 0 (nI n - 1) = 0 ↔ ¬ (0 ≤ v.toInt ∧ v.toInt < n) := by
  have e : nI n - 1 = iI ((n : Int) - 1) := by rw [ii_nat, show (1 : Int32) = iI 1 from rfl, ii_sub]
  rw [e]
  exact (f_wiZ (v := v) 0 ((n : Int) - 1) ⟨by omega, by omega⟩ ⟨by omega, by omega⟩).trans (by omega)
theorem c11_isPossible (v1 v2 v3 v4 : Int32) {W : aW} {I : Nat → Nat} (hS : mSk h) (st : cSt h W I) (pc : plC h W) (K1 : ¬ ((0 ≤ v1.toInt ∧ v1.toInt < wn W) ∧ (0 ≤ v2.toInt ∧ v2.toInt < wl W) ∧ ¬ f_X11_inGrid v3 v4 = 0) → Q (some (.inl (-1))) h)
    (K2 : ∀ c i x y, c < wn W → i < wl W → x < 32 → y < 32 → v1 = nI c → v2 = nI i → v3 = nI x → v4 = nI y → ∀ h', mFr2 aPl h h' → cSt h' W I → plC h' W → flK h h' W I → Q (some (.inl (b2i (thB W c i (32 * y + x))))) h') : mC G kX11_isPossible (d + 7) b [.inr (some 8), .inl v1, .inl v2, .inl v3, .inl v4] h Q := by
  have hl12 := st.1.2.2.2.2.2.2.1.2.1
  have e1 := st.1.2.2.2.2.2.2.1.1
  refine qX11_isPossible v1 v2 v3 v4 hS (c0_get v1 hS st.1.1 (fun t => ⟨_, rfl, hS, fun _ => K1 (fun u => t u.1), fun y3 z => by cases z⟩) (fun c hc ec => ⟨_, rfl, hS, fun z => (by cases z), fun y3 z => ?_⟩))
  cases z
  rw [e1, within_n (by omega)]
  refine ⟨(st.1.1.2.2 c hc).2.1, fun z => K1 (fun u => z u.2.1), fun z => ?_⟩
  have hv := Classical.byContradiction z
  obtain ⟨i, hi, ei⟩ := nI_ex hv.1 hv.2 (by omega)
  refine ⟨fun g => ?_, fun g => K1 (fun u => u.2.2 g)⟩
  obtain ⟨x, y, hx, hy, ex, ey⟩ := grid_ex g
  have K := K2 c i x y hc hi hx hy ec ei ex ey
  rw [ei, ex, ey]
  refine c6_placesAt hS st pc hc hi (fun h1 f1 s1 p1 k1 r1 => ⟨_, rfl, f1.1.sk hS, by rw [f1.1.2.1]; exact (st.1.1.2.2 c hc).2.1, 32, rfl, skT_32 (f1.1.sk hS), by rw [skL_32 (f1.1.sk hS)]; exact vp_in_nI hy (by omega), ?_⟩)
  rw [nI_clamp (by omega), ask_b2i _ hx, r1 x y hx hy]
  exact K h1 f1 s1 p1 k1
theorem c11_possible (v1 v2 : Int32) {W : aW} {I : Nat → Nat} (hS : mSk h) (st : cSt h W I) (pc : plC h W) (K1 : ¬ ((v1 = -1 ∨ (0 ≤ v1.toInt ∧ v1.toInt < wn W)) ∧ (0 ≤ v2.toInt ∧ v2.toInt < wl W)) → Q (some (.inl (-2))) h)
    (K2 : ∀ c i, c < wn W → i < wl W → v1 = nI c → v2 = nI i → ∀ h', mFr2 aPl h h' → cSt h' W I → plC h' W → flK h h' W I → Q (some (.inl (nI (cnt (thB W c i) 1024)))) h')
    (K3 : ∀ i, i < wl W → v1 = -1 → v2 = nI i → ∀ h', mFr2 aPl h h' → cSt h' W I → plC h' W → flK h h' W I → Q (some (.inl (nI (smN (fun c => cnt (thB W c i) 1024) (wn W))))) h') : mC G kX11_possible (d + 7) b [.inr (some 8), .inl v1, .inl v2] h Q := by
  have hl12 := st.1.2.2.2.2.2.2.1.2.1
  have e1 := st.1.2.2.2.2.2.2.1.1
  have hn8 := st.1.1.2.1
  have lp : ∀ (i : Nat) (to : Nat) (S : Nat → Nat), i < wl W → to ≤ wn W → ∀ fr, fr ≤ to → (∀ j, fr ≤ j → j < to → S (j + 1) = S j + cnt (thB W j i) 1024) → (∀ h', mFr2 aPl h h' → cSt h' W I → plC h' W → flK h h' W I → Q (some (.inl (nI (S to)))) h') → mW G kX11_possible (d + 7) b 73 [some (.inr (some 8)), none, some (.inl (nI i)), none, some (.inl (nI (S fr))), some (.inl (nI to)), some (.inl (nI fr)), none] [] h Q := by
    intro i to S hi hto fr hfr hS2 K
    refine mloop (W := fun j h1 => mW G kX11_possible (d + 7) b 73 [some (.inr (some 8)), none, some (.inl (nI i)), none, some (.inl (nI (S j))), some (.inl (nI to)), some (.inl (nI j)), none] [] h1 Q)
      (P := fun j h1 => fr ≤ j ∧ mFr2 aPl h h1 ∧ cSt h1 W I ∧ plC h1 W ∧ flK h h1 W I) to ?_ ?_ fr h hfr ⟨Nat.le_refl _, mFr2.rf, st, pc, flK.rf⟩
    · rintro j h1 hj ⟨hfj, f1, s1, p1, k1⟩ ih
      have hS1 := f1.1.sk hS
      refine qX11_possible_73 _ _ _ _ hS1 ⟨fun z => absurd z (nI_ge hj (by omega)), fun _ => c0_get (nI j) hS1 s1.1.1 (fun t => absurd ?_ t) (fun c hc ec => ⟨_, rfl, hS1, fun z => (by cases z), fun y3 z => ?_⟩)⟩
      · rw [nI_toI (by omega)]; omega
      · cases z
        rw [nI_eq (by omega) (by omega)] at ec
        subst ec
        have ta := (s1.1.1.2.2 j hc).2.1
        refine ⟨ta, c6_placesAt hS1 s1 p1 hc hi (fun h2 f2 s2 p2 k2 r2 => ⟨_, rfl, f2.1.sk hS1, by rw [f2.1.2.1]; exact ta, ?_⟩)⟩
        have hS3 := f2.1.sk hS1
        rw [show (0 : Int32) = nI 0 from rfl]
        refine c11_bitsIn (d := d + 5) (N := 32) hS3 (skT_32 hS3) (skL_32 hS3) (by omega) (by omega) ⟨_, rfl, hS3, by rw [f2.1.2.1]; exact ta, ?_⟩
        have eb : bsN h2 32 0 = cnt (thB W j i) 1024 := by
          rw [show 1024 = 32 * 32 from rfl, cnt_rows]
          unfold bsN
          refine smN_cong 32 (fun y hy => cnt_cong 32 (fun x hx => ?_))
          rw [show 0 + y = y by omega]; exact r2 x y hx hy
        rw [eb, nI_add, nI_1, ← hS2 j hfj hj]
        exact ih h2 ⟨by omega, f1.tr f2, s2, p2, k1.tr k2⟩
    · rintro h1 ⟨-, f1, s1, p1, k1⟩
      exact qX11_possible_73 _ _ _ _ (f1.1.sk hS) ⟨fun _ => K h1 f1 s1 p1 k1, fun z => absurd (nI_le (Nat.le_refl _) (by omega)) z⟩
  refine qX11_possible v1 v2 hS (c0_get v1 hS st.1.1 (fun t => ⟨_, rfl, hS, ?_⟩) (fun c hc ec => ⟨_, rfl, hS, ?_⟩))
  · rw [e1, within_n (by omega)]
    refine ⟨fun z => K1 (fun u => z u.2), fun z => ⟨fun m1 => ⟨fun q => absurd m1 q, fun _ w ew => ?_⟩, fun m1 => ⟨fun _ => K1 (fun u => u.1.elim m1 t), fun y10 q => (by cases q)⟩⟩⟩
    have hv := Classical.byContradiction z
    obtain ⟨i, hi, ei⟩ := nI_ex hv.1 hv.2 (by omega)
    rw [ew, if_neg (fun q => q m1), st.1.1.1, ei]
    exact lp i (wn W) (smN (fun c => cnt (thB W c i) 1024)) hi (Nat.le_refl _) 0 (by omega) (fun j _ _ => rfl) (fun h' f' s' p' k' => K3 i hi m1 ei h' f' s' p' k')
  · have hne : ¬ v1 = -1 := fun q => by
      rw [q] at ec
      have := congrArg Int32.toInt ec
      rw [nI_toI (by omega)] at this
      have e2 : ((-1 : Int32)).toInt = -1 := by decide
      omega
    rw [e1, within_n (by omega)]
    refine ⟨fun z => K1 (fun u => z u.2), fun z => ⟨fun m1 => absurd m1 hne, fun _ => ⟨fun q => (by cases q), fun y10 q => ?_⟩⟩⟩
    have hv := Classical.byContradiction z
    obtain ⟨i, hi, ei⟩ := nI_ex hv.1 hv.2 (by omega)
    cases q
    refine ⟨(st.1.1.2.2 c hc).2.1, fun _ w ew => ?_, fun q => absurd q hne⟩
    rw [ew, if_pos hne, ec, nI_1, ei]
    have h0 := lp i (c + 1) (fun j => if j = c then 0 else cnt (thB W c i) 1024) hi (by omega) c (by omega) (fun j h1 h2 => by
      have : j = c := by omega
      subst this
      rw [if_neg (by omega), if_pos rfl, Nat.zero_add]) (fun h' f' s' p' k' => by
      rw [if_neg (by omega)]; exact K2 c i hc hi ec ei h' f' s' p' k')
    rw [if_pos rfl] at h0
    exact h0
end
