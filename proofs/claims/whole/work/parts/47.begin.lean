/-! a line begins -/
noncomputable def prV (O : Nat → Nat → Nat) (J : Nat → aLi) (B : aBx) : Nat → Nat → Nat
  | 0, k => if inBx B k then 0 else FARn
  | i + 1, k => lar (foV O J B i) ((k % 32 : Nat) - jX (J (i + 1))) ((k / 32 : Nat) - jY (J (i + 1))) (jD (J (i + 1)))
theorem prV_0 (O : Nat → Nat → Nat) (J : Nat → aLi) (B : aBx) (k : Nat) : prV O J B 0 k = (if inBx B k then 0 else FARn) := rfl
theorem prV_s (O : Nat → Nat → Nat) (J : Nat → aLi) (B : aBx) (i k : Nat) : prV O J B (i + 1) k = lar (foV O J B i) ((k % 32 : Nat) - jX (J (i + 1))) ((k / 32 : Nat) - jY (J (i + 1))) (jD (J (i + 1))) := rfl
theorem foV_pr (O : Nat → Nat → Nat) (J : Nat → aLi) (B : aBx) : ∀ i k, foV O J B i k = sm (prV O J B i k) (O i k)
  | 0, _ => rfl
  | _ + 1, _ => rfl
theorem drB_lar {V : Nat → Nat} {X : Nat → Nat → Bool} {e f : Int} {dr w x y : Nat} (hV : ∀ k, k < 1024 → V k ≤ FARn) (hw : w < FARn) (hX : ∀ sx sy, sx < 32 → sy < 32 → X sx sy = decide (V (32 * sy + sx) ≤ w)) : drB X e f dr x y ↔ lar V (x - e) (y - f) dr ≤ w := by
  obtain ⟨l1, l2, l3⟩ := lar_is hV ((x : Int) - e) ((y : Int) - f) dr
  constructor
  · rintro ⟨sy, h1, h2, sx, h3, h4, h5⟩
    rw [hX sx sy h3 h1] at h5
    have h6 : V (32 * sy + sx) ≤ w := by simpa using h5
    have := l2 (32 * sy + sx) (by omega) (by
      unfold arP
      rw [show (32 * sy + sx) % 32 = sx by omega, show (32 * sy + sx) / 32 = sy by omega]
      omega)
    omega
  · intro z
    rcases l3 with q | ⟨k, hk, hp, q⟩
    · omega
    · unfold arP at hp
      refine ⟨k / 32, by omega, by omega, k % 32, by omega, by omega, ?_⟩
      rw [hX _ _ (by omega) (by omega), show 32 * (k / 32) + k % 32 = k by omega]
      simp; omega
def bxX (h : mH) (B : aBx) : Prop := (mI h 28 3 = nI B.2.1 ∧ mI h 28 4 = nI B.2.2.2 ∧ ∀ x, x < 32 → bt (mI h 28 5) x = decide (B.1 ≤ x ∧ x ≤ B.2.2.1)) ∧ okBx B
noncomputable def bgV (C : aCo) (P : Nat → Nat) (x y : Nat) : Nat := if coLand C x y then FARn else P (32 * y + x)
def aBg (a i : Nat) : Nat → Nat → Prop := fun x k => x = 30 ∨ (x = a + 5 ∧ i * 128 ≤ k ∧ k < i * 128 + 128)
section
variable {G : mG} {d : Nat} {b : Nat × Nat} {h : mH} {Q : Option mV → mH → Prop}
set_option maxHeartbeats 2000000 in
theorem c6_begin {a i lid s n : Nat} {C : aCo} {O : Nat → Nat → Nat} {J : Nat → aLi} {B : aBx} (hS : mSk h) (ta : mT h a = 2) (ha93 : 93 ≤ a) (hL : cLa h a C) (hi : i < n) (hn : n ≤ 12) (tl : mT h lid = 6) (hl93 : 93 ≤ lid) (e0 : mI h lid 0 = iI (jX (J i))) (e1 : mI h lid 1 = iI (jY (J i))) (e2 : mI h lid 2 = nI (jD (J i))) (bx : -9 ≤ jX (J i) ∧ jX (J i) ≤ 9) (by0 : -9 ≤ jY (J i) ∧ jY (J i) ≤ 9) (hdr : jD (J i) ≤ 3) (es : mI h 28 2 = nI s) (hs : s ≤ 3) (hB : bxX h B) (hO : okO2 n O)
    (hR : ∀ j, i = j + 1 → rwB h (a + 5) (j * 128) s (fun x y => foV O J B j (32 * y + x)))
    (K : ∀ h', mFr2 (aBg a i) h h' → rwB h' (a + 5) (i * 128) s (bgV C (prV O J B i)) → Q none h') : mC G kX6_begin (d + 2) b [.inr (some 28), .inr (some a), .inl (nI i), .inr (some lid)] h Q := by
  have apl := ap62 hS tl ta
  obtain ⟨⟨b1, b2, b3⟩, o1, o2, o3, o4⟩ := hB
  have t5 := (skB hS (o := 5) (u := 100) (l := 1536) (by decide) ta)
  refine qX6_begin a _ lid ta tl hS ?_
  refine mloop (W := fun w h1 => mW G kX6_begin (d + 2) b 3 [some (.inr (some 28)), some (.inr (some a)), some (.inl (nI i)), some (.inr (some lid)), some (.inl (nI w)), none, none, none, none] [] h1 Q)
    (P := fun w h1 => mFr2 (aBg a i) h h1 ∧ ∀ w' x y, w' < w → x < 32 → y < 32 → bt (mI h1 (a + 5) (i * 128 + 32 * w' + y)) x = decide (bgV C (prV O J B i) x y ≤ w')) (s + 1) ?_ ?_ 0 h (by omega) ⟨mFr2.rf, fun w' x y z => by omega⟩
  · rintro w h1 hw ⟨f1, c1⟩ ih
    have hS1 := f1.1.sk hS
    have ta1 : mT h1 a = 2 := by rw [f1.1.2.1]; exact ta
    have tl1 : mT h1 lid = 6 := by rw [f1.1.2.1]; exact tl
    have nA : ∀ x k, x ≠ 30 → x ≠ a + 5 → ¬ aBg a i x k := fun x k q1 q2 z => by unfold aBg at z; omega
    have er : (nI i * 4 + nI w) * 32 = nI (i * 128 + 32 * w) := by
      rw [L4, pk_mul, nI_add, L32, pk_mul]; congr 1; omega
    -- the rows of this w, y by y
    have rows : ∀ h2, mFr2 (aBg a i) h h2 → (∀ w' x y, w' < w → x < 32 → y < 32 → bt (mI h2 (a + 5) (i * 128 + 32 * w' + y)) x = decide (bgV C (prV O J B i) x y ≤ w')) → (0 < i → ∀ x y, x < 32 → y < 32 → (bt (mI h2 (a + 5) (i * 128 + 32 * w + y)) x = true ↔ prV O J B i (32 * y + x) ≤ w)) → mW G kX6_begin (d + 2) b 49 [some (.inr (some 28)), some (.inr (some a)), some (.inl (nI i)), some (.inr (some lid)), some (.inl (nI w)), some (.inl (nI (i * 128 + 32 * w))), some (.inl 0), none, none] [] h2 Q := by
      intro h2 f2 c2 p2
      refine mloop (W := fun y h3 => mW G kX6_begin (d + 2) b 49 [some (.inr (some 28)), some (.inr (some a)), some (.inl (nI i)), some (.inr (some lid)), some (.inl (nI w)), some (.inl (nI (i * 128 + 32 * w))), some (.inl (nI y)), none, none] [] h3 Q)
        (P := fun y h3 => mFr2 (aBg a i) h h3 ∧ (∀ w' x y, w' < w → x < 32 → y < 32 → bt (mI h3 (a + 5) (i * 128 + 32 * w' + y)) x = decide (bgV C (prV O J B i) x y ≤ w')) ∧ (∀ x y', x < 32 → y' < y → bt (mI h3 (a + 5) (i * 128 + 32 * w + y')) x = decide (bgV C (prV O J B i) x y' ≤ w)) ∧ (0 < i → ∀ x y', x < 32 → y' < 32 → y ≤ y' → (bt (mI h3 (a + 5) (i * 128 + 32 * w + y')) x = true ↔ prV O J B i (32 * y' + x) ≤ w))) 32 ?_ ?_ 0 h2 (by omega) ⟨f2, c2, fun x y' _ z => by omega, fun q x y' h3 h4 _ => p2 q x y' h3 h4⟩
      · rintro y h3 hy ⟨f3, c3, c4, p3⟩ ih2
        have hS3 := f3.1.sk hS
        have g28 : ∀ k, mI h3 28 k = mI h 28 k := fun k => f3.2 _ _ (nA _ _ (by omega) (by omega))
        have gl : mI h3 (a + 1) y = mI h (a + 1) y := f3.2 _ _ (nA _ _ (by omega) (by omega))
        have eN : nI (i * 128 + 32 * w) + nI y = nI (i * 128 + 32 * w + y) := nI_add _ _
        have vN : vp_in (nI (i * 128 + 32 * w + y)) 1536 := vp_in_nI (by omega) (by omega)
        have vy : vp_in (nI y) 32 := vp_in_nI hy (by omega)
        have done : ∀ z, (∀ x, x < 32 → bt z x = decide (bgV C (prV O J B i) x y ≤ w)) → mW G kX6_begin (d + 2) b 49 [some (.inr (some 28)), some (.inr (some a)), some (.inl (nI i)), some (.inr (some lid)), some (.inl (nI w)), some (.inl (nI (i * 128 + 32 * w))), some (.inl (nI (y + 1))), none, none] [] (mSI h3 (a + 5) (i * 128 + 32 * w + y) z) Q := by
          intro z hz
          refine ih2 _ ⟨f3.tr (mFr2.SI (Or.inr ⟨rfl, by omega, by omega⟩)), fun w' x y' q1 q2 q3 => ?_, fun x y' q1 q2 => ?_, fun q x y' q1 q2 q3 => ?_⟩
          · rw [mI_SI_k (by omega)]; exact c3 w' x y' q1 q2 q3
          · by_cases e : y' = y
            · rw [e, mI_SI_s]; exact hz x q1
            · rw [mI_SI_k (by omega)]; exact c4 x y' q1 (by omega)
          · rw [mI_SI_k (by omega)]; exact p3 q x y' q1 q2 (by omega)
        have land : ∀ x, x < 32 → bt (m_not (mI h (a + 1) y)) x = !coLand C x y := fun x hx => by rw [bt_not _ hx, (hL x y hx hy).1]
        have dA : ∀ r : Int32, (∀ x, x < 32 → (bt r x = true ↔ prV O J B i (32 * y + x) ≤ w)) → ∀ x, x < 32 → bt (r &&& m_not (mI h (a + 1) y)) x = decide (bgV C (prV O J B i) x y ≤ w) := by
          intro r hr x hx
          rw [bt_and, land x hx]
          unfold bgV
          cases hc : coLand C x y with
          | true =>
            rw [if_pos rfl, decide_eq_false (by unfold FARn; omega)]; simp
          | false =>
            rw [if_neg (by decide)]
            by_cases q : prV O J B i (32 * y + x) ≤ w
            · rw [(hr x hx).mpr q, decide_eq_true q]; rfl
            · have : bt r x = false := by
                cases hb : bt r x with
                | true => exact absurd ((hr x hx).mp hb) q
                | false => rfl
              rw [this, decide_eq_false q]; rfl
        have hge : 0 < i → ∀ h7, h7 = mSI h3 (a + 5) (i * 128 + 32 * w + y) (mI h3 (a + 5) (i * 128 + 32 * w + y) &&& m_not (mI h (a + 1) y)) → mW G kX6_begin (d + 2) b 49 [some (.inr (some 28)), some (.inr (some a)), some (.inl (nI i)), some (.inr (some lid)), some (.inl (nI w)), some (.inl (nI (i * 128 + 32 * w))), some (.inl (nI (y + 1))), none, none] [] h7 Q := by
          intro q h7 e7
          rw [e7]
          exact done _ (dA _ (fun x hx => p3 q x y hx hy (Nat.le_refl _)))
        have hle : nI i ≤ 0 ↔ i = 0 := by
          rw [show (0 : Int32) = nI 0 from rfl, nI_leI (by omega) (by omega)]; omega
        have bo0 : i = 0 → ¬ (B.2.1 ≤ y ∧ y ≤ B.2.2.2) → ∀ h7, h7 = mSI h3 (a + 5) (i * 128 + 32 * w + y) (0 &&& m_not (mI h (a + 1) y)) → mW G kX6_begin (d + 2) b 49 [some (.inr (some 28)), some (.inr (some a)), some (.inl (nI i)), some (.inr (some lid)), some (.inl (nI w)), some (.inl (nI (i * 128 + 32 * w))), some (.inl (nI (y + 1))), none, none] [] h7 Q := by
          intro q nb h7 e7
          rw [e7]
          refine done _ (dA _ (fun x hx => ?_))
          subst q
          rw [bt_0]
          rw [prV_0]
          unfold inBx
          rw [show (32 * y + x) % 32 = x by omega, show (32 * y + x) / 32 = y by omega, decide_eq_false (fun z => nb z.2)]
          unfold FARn
          simp; omega
        refine qX6_begin_49 a _ lid _ _ _ (by rw [f3.1.2.1]; exact ta) (by rw [f3.1.2.1]; exact tl) hS3 ⟨fun z => absurd z (nI_ge (b := 32) hy (by omega)), fun _ => ?_⟩
        rw [eN, nI_clamp (show i * 128 + 32 * w + y < 2 ^ 31 by omega), nI_clamp (show y < 2 ^ 31 by omega), g28, g28, g28, gl, b1, b2, nI_1, nI_ltI (by omega) (by omega), nI_ltI (by omega) (by omega), hle]
        refine ⟨fun z => ⟨fun q => ⟨vy, vN, bo0 q (by omega)⟩, fun q => ⟨vN, vy, vN, hge (by omega)⟩⟩, fun z => ⟨fun z2 => ⟨fun q => ⟨vy, vN, bo0 q (by omega)⟩, fun q => ⟨vN, vy, vN, hge (by omega)⟩⟩, fun z2 => ⟨fun q => ⟨vy, vN, fun h7 e7 => ?_⟩, fun q => ⟨vN, vy, vN, hge (by omega)⟩⟩⟩⟩
        rw [e7]
        refine done _ (dA _ (fun x hx => ?_))
        subst q
        rw [b3 x hx]
        rw [prV_0]
        unfold inBx
        rw [show (32 * y + x) % 32 = x by omega, show (32 * y + x) / 32 = y by omega]
        by_cases q : B.1 ≤ x ∧ x ≤ B.2.2.1
        · rw [decide_eq_true q, decide_eq_true ⟨q, by omega⟩]; simp
        · rw [decide_eq_false q, decide_eq_false (fun z => q z.1)]
          unfold FARn; simp; omega
      · rintro h3 ⟨f3, c3, c4, p3⟩
        refine qX6_begin_49 a _ lid _ _ _ (by rw [f3.1.2.1]; exact ta) (by rw [f3.1.2.1]; exact tl) (f3.1.sk hS) ⟨fun _ => ?_, fun z => absurd (by decide) z⟩
        rw [nI_1]
        refine ih h3 ⟨f3, fun w' x y q1 q2 q3 => ?_⟩
        by_cases e : w' = w
        · rw [e]; exact c4 x y q2 q3
        · exact c3 w' x y (by omega) q2 q3
    have es1 : mI h1 28 2 = nI s := by rw [f1.2 _ _ (nA _ _ (by omega) (by omega))]; exact es
    refine qX6_begin_3 a _ lid _ ta1 tl1 hS1 ⟨fun z => absurd z (by rw [es1]; exact nI_nlt (by omega) (by omega)), fun _ => qX1_rowsAt a _ _ ta1 hS1 ⟨_, rfl, hS1, ta1, tl1, fun z => ?_, fun z => ?_⟩⟩
    · rw [er]
      have i0 : i = 0 := by
        rw [show (0 : Int32) = nI 0 from rfl, nI_leI (by omega) (by omega)] at z; omega
      exact rows h1 f1 c1 (fun q => by omega)
    · have i0 : 0 < i := by
        apply Classical.byContradiction; intro t
        exact z (nI_le (b := 0) (by omega) (by omega))
      obtain ⟨j, rfl⟩ : ∃ j, i = j + 1 := ⟨i - 1, by omega⟩
      rw [er, nI_pred]
      have er2 : (nI j * 4 + nI w) * 32 = nI (j * 128 + 32 * w) := by
        rw [L4, pk_mul, nI_add, L32, pk_mul]; congr 1; omega
      refine qX1_rowsAt a _ _ ta1 hS1 ⟨_, rfl, hS1, ta1, tl1, ?_⟩
      rw [er2]
      have nl : ∀ k, mI h1 lid k = mI h lid k := fun k => f1.2 _ _ (nA _ _ (by omega) (fun q => apl 0 5 (by omega) (by omega) (by omega)))
      refine c6_drift (sg := 1) (dx := jX (J (j + 1))) (dy := jY (J (j + 1))) (dr := jD (J (j + 1))) (N := 1536) (X := fun sx sy => decide (foV O J B j (32 * sy + sx) ≤ w)) hS1 (by rw [f1.1.2.1]; exact t5.1) (by rw [f1.1.2.2.1]; exact t5.2) (by omega) (by omega) (by omega) (by omega) tl1 (by rw [nl]; exact e0) (by rw [nl]; exact e1) (by rw [nl]; exact e2) bx by0 hdr (Or.inl rfl) (fun x y hx hy => ?_) (fun h2 f2 c2 => ?_)
      · rw [f1.2 _ _ (fun z => by unfold aBg at z; omega)]
        exact hR j rfl w x y (by omega) hx hy
      · have f2' : mFr2 (aBg a (j + 1)) h1 h2 := f2.wk (fun x k z => by unfold aDr at z; unfold aBg; omega)
        refine ⟨rfl, f2.1.sk hS1, by rw [f2.1.2.1]; exact ta1, by rw [f2.1.2.1]; exact tl1, ?_⟩
        refine rows h2 (f1.tr f2') (fun w' x y q1 q2 q3 => ?_) (fun _ x y q1 q2 => ?_)
        · rw [f2.2 _ _ (fun z => by unfold aDr at z; omega)]; exact c1 w' x y q1 q2 q3
        · rw [c2 x y q1 q2, drB_lar (V := foV O J B j) (w := w) (fun k _ => (foV_b hO hn J B j k (by omega)).1) (by unfold FARn; omega) (fun sx sy _ _ => rfl), Int.one_mul, Int.one_mul]
          rw [prV_s, show (32 * y + x) % 32 = x by omega, show (32 * y + x) / 32 = y by omega]
  · rintro h1 ⟨f1, c1⟩
    have es1 : mI h1 28 2 = nI s := by rw [f1.2 _ _ (fun z => by unfold aBg at z; omega)]; exact es
    refine qX6_begin_3 a _ lid _ (by rw [f1.1.2.1]; exact ta) (by rw [f1.1.2.1]; exact tl) (f1.1.sk hS) ⟨fun _ => K h1 f1 (fun w x y q1 q2 q3 => c1 w x y (by omega) q2 q3), fun z => absurd ?_ z⟩
    rw [es1]; exact nI_lt (by omega) (by omega)
end
