/-! the first bad line (class) -/
theorem smN_0 {f : Nat → Nat} : ∀ n, smN f n = 0 ↔ ∀ y, y < n → f y = 0
  | 0 => ⟨fun _ y z => by omega, fun _ => rfl⟩
  | n + 1 => by
    have ih := smN_0 (f := f) n
    unfold smN
    constructor
    · intro z y hy
      rcases (show y < n ∨ y = n by omega) with q | q
      · exact ih.mp (by omega) y q
      · rw [q]; omega
    · intro z
      have h1 := ih.mpr (fun y hy => z y (by omega))
      have h2 := z n (by omega)
      omega
theorem smN_le {f : Nat → Nat} {M : Nat} (hf : ∀ y, f y ≤ M) : ∀ n, smN f n ≤ n * M
  | 0 => by simp [smN]
  | n + 1 => by
    have := smN_le hf n
    have := hf n
    unfold smN
    rw [Nat.succ_mul]; omega
theorem cnt_z {p : Nat → Bool} : ∀ n, cnt p n = 0 ↔ ∀ x, x < n → p x = false
  | 0 => ⟨fun _ y z => by omega, fun _ => rfl⟩
  | n + 1 => by
    have ih := cnt_z (p := p) n
    unfold cnt
    constructor
    · intro z x hx
      rcases (show x < n ∨ x = n by omega) with q | q
      · exact ih.mp (by omega) x q
      · rw [q]
        cases hb : p n with
        | false => rfl
        | true => rw [hb, if_pos rfl] at z; omega
    · intro z
      have h1 := ih.mpr (fun y hy => z y (by omega))
      rw [h1, z n (by omega)]; rfl
def bsN (h : mH) (A fr : Nat) : Nat := smN (fun y => cnt (bt (mI h A (fr + y))) 32) 32
section
variable {G : mG} {d : Nat} {b : Nat × Nat} {h : mH} {Q : Option mV → mH → Prop}
theorem c11_bitsIn {A fr N : Nat} (hS : mSk h) (tA : mT h A = 100) (lA : mL h A = N) (hN : fr + 32 ≤ N) (hN2 : N < 100000) (K : Q (some (.inl (nI (bsN h A fr)))) h) : mC G kX11_bitsIn (d + 1) b [.inr (some A), .inl (nI fr)] h Q := by
  refine qX11_bitsIn A _ tA hS ?_
  refine mloop (W := fun y h1 => mW G kX11_bitsIn (d + 1) b 4 [some (.inr (some A)), some (.inl (nI fr)), some (.inl (nI (smN (fun y => cnt (bt (mI h A (fr + y))) 32) y))), some (.inl (nI y))] [] h1 Q) (P := fun y h1 => h1 = h) 32 ?_ ?_ 0 h (by omega) rfl
  · rintro y h1 hy rfl ih
    refine qX11_bitsIn_4 A _ _ _ tA hS ⟨fun z => absurd z (nI_ge (b := 32) hy (by omega)), fun _ => ?_⟩
    rw [nI_add, nI_clamp (by omega), bitCount_eq, nI_add, nI_1, lA]
    exact ⟨vp_in_nI (by omega) (by omega), ih h1 rfl⟩
  · rintro h1 rfl
    exact qX11_bitsIn_4 A _ _ _ tA hS ⟨fun _ => K, fun z => absurd (by decide) z⟩
theorem bsN_0 {A fr s : Nat} {V : Nat → Nat} (hr : ∀ x y, x < 32 → y < 32 → bt (mI h A (fr + y)) x = decide (V (32 * y + x) ≤ s)) (hV : ∀ k, k < 1024 → V k ≤ FARn) (hs : s < FARn) : bsN h A fr = 0 ↔ s < mnN V 1024 := by
  obtain ⟨m1, m2, m3⟩ := mnN_all hV 1024 (Nat.le_refl _)
  unfold bsN
  rw [smN_0]
  constructor
  · intro z
    rcases m3 with e | ⟨k, hk, -, e⟩
    · omega
    · have := (cnt_z 32).mp (z (k / 32) (by omega)) (k % 32) (by omega)
      rw [hr _ _ (by omega) (by omega), show 32 * (k / 32) + k % 32 = k by omega] at this
      have : ¬ V k ≤ s := by simpa using this
      omega
  · intro z y hy
    refine (cnt_z 32).mpr (fun x hx => ?_)
    rw [hr x y hx hy]
    have := m2 (32 * y + x) (by omega) (by omega)
    exact decide_eq_false (by omega)
theorem c6_badLine {c : Nat} {W : aW} {I : Nat → Nat} (hS : mSk h) (hW : cWo h W I) (hc : c < wn W) (hr : ∀ i, i < wl W → rwB h (I c + 5) (i * 128) (ws W) (fun x y => wF W c i (32 * y + x)))
    (K1 : (∀ i, i < wl W → mnN (wF W c i) 1024 ≤ ws W) → Q (some (.inl (-1))) h) (K2 : ∀ i, wBad W c i → Q (some (.inl (nI i))) h) : mC G kX6_badLine (d + 2) b [.inr (some 28), .inr (some (I c))] h Q := by
  have ta := (hW.1.2.2 c hc).2.1
  have hl12 := hW.2.2.2.2.2.2.1.2.1
  have hs3 := hW.2.2.2.2.2.2.2.1.2
  have es := hW.2.2.2.2.2.2.2.1.1
  have e1 := hW.2.2.2.2.2.2.1.1
  have t5 := skB hS (o := 5) (u := 100) (l := 1536) (by decide) ta
  refine qX6_badLine (I c) ta hS ?_
  have lp : ∀ (r i : Nat), i + r = wl W → (∀ j, j < i → mnN (wF W c j) 1024 ≤ ws W) → mW G kX6_badLine (d + 2) b 2 [some (.inr (some 28)), some (.inr (some (I c))), some (.inl (nI i))] [] h Q := by
    intro r
    induction r with
    | zero =>
      intro i hi hj
      exact qX6_badLine_2 (I c) _ ta hS ⟨fun _ => K1 (fun j hj' => hj j (by omega)), fun z => absurd (by rw [e1]; exact nI_le (by omega) (by omega)) z⟩
    | succ r ih =>
      intro i hi hj
      have er : (nI i * 4 + nI (ws W)) * 32 = nI (i * 128 + 32 * ws W) := by
        rw [L4, pk_mul, nI_add, L32, pk_mul]; congr 1; omega
      refine qX6_badLine_2 (I c) _ ta hS ⟨fun z => absurd z (by rw [e1]; exact nI_ge (by omega) (by omega)), fun _ => qX1_rowsAt (I c) _ _ ta hS ⟨_, rfl, hS, ta, ?_⟩⟩
      rw [es, er]
      have hle : bsN h (I c + 5) (i * 128 + 32 * ws W) ≤ 32 * 32 := smN_le (fun y => cnt_le _ 32) 32
      have h0 := bsN_0 (h := h) (A := I c + 5) (fr := i * 128 + 32 * ws W) (s := ws W) (V := wF W c i) (fun x y hx hy => hr i (by omega) (ws W) x y (Nat.le_refl _) hx hy) (fun k _ => (foV_b (wO_okX hW c) hl12 (wJ W) (wB W) i k (by omega)).1) (by unfold FARn; omega)
      have h1 : nI (bsN h (I c + 5) (i * 128 + 32 * ws W)) = 0 ↔ bsN h (I c + 5) (i * 128 + 32 * ws W) = 0 := nI_eq (b := 0) (by omega) (by omega)
      refine c11_bitsIn (d := d) hS t5.1 t5.2 (by omega) (by omega) ⟨_, rfl, hS, ta, fun z => ?_, fun z => K2 i ⟨by omega, h0.mp (h1.mp z), hj⟩⟩
      rw [nI_1]
      refine ih (i + 1) (by omega) (fun j hj' => ?_)
      rcases (show j < i ∨ j = i by omega) with q | q
      · exact hj j q
      · rw [q]
        apply Classical.byContradiction
        intro t
        exact z (h1.mpr (h0.mpr (by omega)))
  exact lp (wl W) 0 (by omega) (fun j hj => by omega)
end
