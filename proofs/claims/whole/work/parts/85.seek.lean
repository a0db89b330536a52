/-! wayIn (class) -/
theorem tbA.val {h : mH} {S : Nat → Bool} {g k L : Nat} (hg : g < 1024) (hk : k < 1024) (tb : tbA h S g L) : ∃ V : Nat → Nat, ∀ e, e < 4 → (mI h 39 (1024 * e + k) = nI (V e) ∧ V e < 4194304 ∧ (∀ t s, t < L → 0 < s → s ≤ 1024 → (V e = 2048 * t + s ↔ lx S g k e t s)) ∧ (V e ≠ 0 → ∃ t s, t < L ∧ lx S g k e t s ∧ V e = 2048 * t + s)) := by
  have hv : ∀ e, ∃ n, e < 4 → (mI h 39 (1024 * e + k) = nI n ∧ n < 4194304 ∧ (∀ t s, t < L → 0 < s → s ≤ 1024 → (n = 2048 * t + s ↔ lx S g k e t s)) ∧ (n ≠ 0 → ∃ t s, t < L ∧ lx S g k e t s ∧ n = 2048 * t + s)) := fun e => by
    by_cases he : e < 4
    · obtain ⟨n, hn⟩ := (tb e k he hk).val hg he hk
      exact ⟨n, fun _ => hn⟩
    · exact ⟨0, fun z => (he z).elim⟩
  exact Classical.axiomOfChoice hv
/-- what is found -/
def seR (h : mH) (S : Nat → Bool) (g a : Nat) : Prop := (a = g ∧ mI h 38 2 = 1 ∧ mI h 38 3 = 0 ∧ mI h 38 4 = 0) ∨ (a ≠ g ∧ mI h 38 2 = 0 ∧ ∀ q t s, q < 4 → ¬ wy S g s t a q) ∨ (a ≠ g ∧ mI h 38 2 = 1 ∧ ∃ q t s, fsP S g a q t s ∧ wkR h S g a q t s)
def aWy : Nat → Nat → Prop := fun x k => (x = 38 ∧ 2 ≤ k ∧ k ≤ 7) ∨ x = 39 ∨ x = 40
theorem seR.fr {A : Nat → Nat → Prop} {h h' : mH} {S : Nat → Bool} {g a : Nat} (f : mFr2 A h h') (h1 : ∀ k, ¬ A 38 k) (h2 : ∀ k, ¬ A 40 k) (s : seR h S g a) : seR h' S g a := by
  unfold seR wkR at s ⊢
  rw [f.2 _ _ (h1 2), f.2 _ _ (h1 3), f.2 _ _ (h1 4)]
  rcases s with s | s | ⟨s1, s2, q, t, s, s3, s4, s5, s6⟩
  · exact Or.inl s
  · exact Or.inr (Or.inl s)
  · refine Or.inr (Or.inr ⟨s1, s2, q, t, s, s3, s4, s5, fun n n1 n2 => ?_⟩)
    rw [f.2 _ _ (h2 n)]
    exact s6 n n1 n2
section
variable {G : mG} {d : Nat} {b : Nat × Nat} {h : mH} {Q : Option mV → mH → Prop}
set_option maxHeartbeats 1000000 in
theorem c10_seekL {S : Nat → Bool} {g a : Nat} (hg : g < 1024) (ha : a < 1024) (hag : a ≠ g) (v : Int32)
    (K : ∀ h', mFr2 aWy h h' → mI h' 38 7 = v → mI h' 38 5 = nI a → mI h' 38 6 = nI g → seR h' S g a → Q none h') : ∀ (r T : Nat) (h1 : mH) (v5 : Int32), T + r = 1024 → mSk h1 → mFr2 aWy h h1 → mI h1 38 7 = v → mI h1 38 5 = nI a → mI h1 38 6 = nI g → (∀ k, k < 1024 → bt (mI h1 36 (k / 32)) (k % 32) = S k) → tbA h1 S g T →
      ((mI h1 38 2 = 0 ∧ (∀ q t s, q < 4 → wy S g s t a q → T ≤ t) ∧ (v5 = 0 → ∀ q t s, q < 4 → ¬ wy S g s t a q)) ∨ (mI h1 38 2 = 1 ∧ ∃ q t s, fsP S g a q t s ∧ t < T)) →
      mW G kX10_seek (d + 3) b 88 [some (.inr (some 38)), some (.inr (some 36)), none, none, none, some (.inl v5), some (.inl (nI T))] [] h1 Q := by
  intro r
  -- found
  have fnd : ∀ (T : Nat) (h1 : mH), mSk h1 → mFr2 aWy h h1 → mI h1 38 7 = v → mI h1 38 5 = nI a → mI h1 38 6 = nI g → tbA h1 S g T → mI h1 38 2 = 1 → (∃ q t s, fsP S g a q t s ∧ t < T) →
      mC G kX10_walk (d + 2) (0, 0) [.inr (some 38)] h1 (fun r h2 => r = none ∧ mSk h2 ∧ mT h2 36 = 100 ∧ Q none h2) := by
    intro T h1 hS1 f1 e7 e5 e6 tb e2 ⟨q, t, s, fs, ht⟩
    refine c10_walk (S := S) (g := g) (a := a) hS1 hg ha e5 tb fs ht (fun h2 f2 w2 => ⟨rfl, f2.1.sk hS1, skT_36 (f2.1.sk hS1), K h2 (f1.tr (f2.wk (fun x k z => by unfold aWk at z; unfold aWy; omega))) ?_ ?_ ?_ (Or.inr (Or.inr ⟨hag, ?_, q, t, s, fs, w2⟩))⟩)
    · rw [f2.2 _ _ (by unfold aWk; omega)]; exact e7
    · rw [f2.2 _ _ (by unfold aWk; omega)]; exact e5
    · rw [f2.2 _ _ (by unfold aWk; omega)]; exact e6
    · rw [f2.2 _ _ (by unfold aWk; omega)]; exact e2
  have one0 : ¬ (1 : Int32) = 0 := by decide
  induction r with
  | zero =>
    intro T h1 v5 hT hS1 f1 e7 e5 e6 hs tb st
    have : T = 1024 := by omega
    subst this
    have hT36 := skT_36 hS1
    rcases st with ⟨e2, no, -⟩ | ⟨e2, fs⟩
    · have nw : ∀ q t s, q < 4 → ¬ wy S g s t a q := fun q t s hq hw => by
        obtain ⟨t', s', hl⟩ := lx_ex hw
        have := lx_bd ha hq hg hl
        have := no q t' s' hq hl.1
        omega
      have KQ := K h1 f1 e7 e5 e6 (Or.inr (Or.inl ⟨hag, e2, nw⟩))
      refine qX10_seek_88 36 _ _ hT36 hS1 ⟨fun _ => ⟨fun _ => KQ, fun z => absurd e2 z⟩, fun _ => ⟨fun z => absurd e2 z, fun _ => ⟨fun _ => ⟨fun _ => KQ, fun z => absurd e2 z⟩, fun z => absurd (nI_le (a := 1024) (by omega) (by omega)) z⟩⟩⟩
    · have ne : ¬ mI h1 38 2 = 0 := by rw [e2]; exact one0
      have W := fnd 1024 h1 hS1 f1 e7 e5 e6 tb e2 fs
      exact qX10_seek_88 36 _ _ hT36 hS1 ⟨fun _ => ⟨fun z => absurd z ne, fun _ => W⟩, fun _ => ⟨fun _ => ⟨fun z => absurd z ne, fun _ => W⟩, fun z => absurd z ne⟩⟩
  | succ r ih =>
    intro T h1 v5 hT hS1 f1 e7 e5 e6 hs tb st
    have hT36 := skT_36 hS1
    rcases st with ⟨e2, no, nv⟩ | ⟨e2, fs⟩
    · refine qX10_seek_88 36 _ _ hT36 hS1 ⟨fun z => ⟨fun _ => K h1 f1 e7 e5 e6 (Or.inr (Or.inl ⟨hag, e2, nv z⟩)), fun z => absurd e2 z⟩, fun _ => ⟨fun z => absurd e2 z, fun _ => ⟨fun z => absurd z (nI_ge (b := 1024) (by omega) (by omega)), fun _ => ?_⟩⟩⟩
      refine c10_addTurn (S := S) (g := g) (T := T) hS1 hg (by omega) e6 hs tb (fun h2 v2 f2 tb2 sv => ⟨_, rfl, f2.1.sk hS1, skT_36 (f2.1.sk hS1), ?_⟩)
      have hS2 := f2.1.sk hS1
      obtain ⟨V, hV⟩ := tb2.val hg ha
      have e52 : mI h2 38 5 = nI a := by rw [f2.2 _ _ (by omega)]; exact e5
      have go : ∀ (w : Int32) (x : Int32), w = (if x = -1 then 0 else 1) → ((x = -1 ∧ (∀ q t s, q < 4 → wy S g s t a q → T + 1 ≤ t) ∧ (v2 = 0 → ∀ q t s, q < 4 → ¬ wy S g s t a q)) ∨ (¬ x = -1 ∧ ∃ q t s, fsP S g a q t s ∧ t < T + 1)) →
          mW G kX10_seek (d + 3) b 88 [some (.inr (some 38)), some (.inr (some 36)), none, none, none, some (.inl v2), some (.inl (nI (T + 1)))] [] (mSI h2 38 2 w) Q := by
        intro w x ew st2
        have f3 : mFr2 (fun a k => a = 38 ∧ k = 2) h2 (mSI h2 38 2 w) := mFr2.SI ⟨rfl, rfl⟩
        refine ih (T + 1) (mSI h2 38 2 w) v2 (by omega) (sk_SI hS2) ((f1.tr (f2.wk (fun x k z => by unfold aWy; omega))).tr (f3.wk (fun x k z => by unfold aWy; omega))) ?_ ?_ ?_ (fun k hk => ?_) (fun q k hq hk => ?_) ?_
        · rw [f3.2 _ _ (by omega), f2.2 _ _ (by omega)]; exact e7
        · rw [f3.2 _ _ (by omega)]; exact e52
        · rw [f3.2 _ _ (by omega), f2.2 _ _ (by omega)]; exact e6
        · rw [f3.2 _ _ (by omega), f2.2 _ _ (by omega)]; exact hs k hk
        · exact (tb2 q k hq hk).cg (f3.2 _ _ (by omega))
        · rw [mI_SI_s]
          rcases st2 with ⟨x1, s1, s2⟩ | ⟨x1, s1⟩
          · rw [if_pos x1] at ew; exact Or.inl ⟨ew, s1, s2⟩
          · rw [if_neg x1] at ew; exact Or.inr ⟨ew, s1⟩
      refine c10_bestFirst (V := V) hS2 ha e52 (fun e he => ⟨(hV e he).1, (hV e he).2.1⟩) (fun z => ⟨_, rfl, hS2, skT_36 hS2, fun w11 e11 h12 e12 => ?_⟩) (fun q hq v0 mn => ⟨_, rfl, hS2, skT_36 hS2, fun w11 e11 h12 e12 => ?_⟩)
      · rw [e12, nI_1]
        have no2 : ∀ q t s, q < 4 → wy S g s t a q → T + 1 ≤ t := fun q t s hq hw => by
          apply Classical.byContradiction
          intro u
          obtain ⟨t', s', hl⟩ := lx_ex hw
          have hb := hl.2 s t hw
          obtain ⟨b1, b2, b3⟩ := lx_bd ha hq hg hl
          have := ((hV q hq).2.2.1 t' s' (by omega) b1 b2).mpr hl
          have := z q hq
          omega
        refine go w11 (-1) e11 (Or.inl ⟨rfl, no2, fun v0 q t s hq hw => ?_⟩)
        rcases sv with ⟨-, nl⟩ | v1
        · obtain ⟨t', s', hl⟩ := lx_ex hw
          have := no2 q t' s' hq hl.1
          obtain ⟨k', q', s2, hk', hq', hl'⟩ := lx_lv (T := T) ha hq (t' - T) (by rw [show T + (t' - T) = t' by omega]; exact hl)
          exact nl q' k' s2 hq' hk' hl'
        · rw [v1] at v0; exact one0 v0
      · rw [e12, nI_1]
        refine go w11 (nI q) e11 (Or.inr ⟨nI_nmb (by omega), ?_⟩)
        obtain ⟨t, s, ht, hl, ev⟩ := (hV q hq).2.2.2 v0
        obtain ⟨b1, b2, b3⟩ := lx_bd ha hq hg hl
        refine ⟨q, t, s, ⟨hq, hl, fun e t' s' he hl' => ?_⟩, ht⟩
        by_cases u : t' < T + 1
        · obtain ⟨c1, c2, c3⟩ := lx_bd ha he hg hl'
          have ev' := ((hV e he).2.2.1 t' s' u c1 c2).mpr hl'
          have := mn e he (by omega)
          omega
        · omega
    · have ne : ¬ mI h1 38 2 = 0 := by rw [e2]; exact one0
      have W := fnd T h1 hS1 f1 e7 e5 e6 tb e2 fs
      exact qX10_seek_88 36 _ _ hT36 hS1 ⟨fun _ => ⟨fun z => absurd z ne, fun _ => W⟩, fun _ => ⟨fun _ => ⟨fun z => absurd z ne, fun _ => W⟩, fun z => absurd z ne⟩⟩
set_option maxHeartbeats 1000000 in
theorem c10_seek {S : Nat → Bool} {g a : Nat} (hS : mSk h) (hg : g < 1024) (ha : a < 1024) (v : Int32) (hs : ∀ k, k < 1024 → bt (mI h 36 (k / 32)) (k % 32) = S k) (ca : mI h 38 7 = v → mI h 38 5 = nI a → mI h 38 6 = nI g → seR h S g a)
    (K : ∀ h', mFr2 aWy h h' → mI h' 38 7 = v → mI h' 38 5 = nI a → mI h' 38 6 = nI g → seR h' S g a → Q none h') : mC G kX10_seek (d + 3) b [.inr (some 38), .inr (some 36), .inl (nI a), .inl (nI g), .inl v] h Q := by
  have go : ∀ h1, h1 = mSI h 38 7 v → ∀ h2, h2 = mSI h1 38 5 (nI a) → ∀ h3, h3 = mSI h2 38 6 (nI g) → ∀ w4 : Int32, w4 = (if ¬ nI a = nI g then 0 else 1) → ∀ h5, h5 = mSI h3 38 2 w4 → ∀ h6, h6 = mSI h5 38 3 0 → ∀ h7, h7 = mSI h6 38 4 0 → (((mI h7 38 2) = 0 → mC G kJ7_fill_53178 (d + 2) (0, 0) [.inr (some 39), .inl 0] h7 (fun r h8 => r = none ∧ mSk h8 ∧ mT h8 36 = 100 ∧ mW G kX10_seek (d + 3) b 88 [some (.inr (some 38)), some (.inr (some 36)), none, none, none, some (.inl 1), some (.inl 0)] [] h8 Q)) ∧ (¬ (mI h7 38 2) = 0 → Q none h7)) := by
    intro h1 q1 h2 q2 h3 q3 w4 q4 h5 q5 h6 q6 h7 q7
    have f7 : mFr2 (fun x k => x = 38 ∧ 2 ≤ k ∧ k ≤ 7) h h7 := by
      rw [q7, q6, q5, q3, q2, q1]
      exact (((((mFr2.SI (A := fun x k => x = 38 ∧ 2 ≤ k ∧ k ≤ 7) ⟨rfl, by omega, by omega⟩).tr (mFr2.SI (A := fun x k => x = 38 ∧ 2 ≤ k ∧ k ≤ 7) ⟨rfl, by omega, by omega⟩)).tr (mFr2.SI (A := fun x k => x = 38 ∧ 2 ≤ k ∧ k ≤ 7) ⟨rfl, by omega, by omega⟩)).tr (mFr2.SI (A := fun x k => x = 38 ∧ 2 ≤ k ∧ k ≤ 7) ⟨rfl, by omega, by omega⟩)).tr (mFr2.SI (A := fun x k => x = 38 ∧ 2 ≤ k ∧ k ≤ 7) ⟨rfl, by omega, by omega⟩)).tr (mFr2.SI (A := fun x k => x = 38 ∧ 2 ≤ k ∧ k ≤ 7) ⟨rfl, by omega, by omega⟩)
    have i7 : mI h7 38 7 = v := by rw [q7, mI_SI_k (by omega), q6, mI_SI_k (by omega), q5, mI_SI_k (by omega), q3, mI_SI_k (by omega), q2, mI_SI_k (by omega), q1, mI_SI_s]
    have i5 : mI h7 38 5 = nI a := by rw [q7, mI_SI_k (by omega), q6, mI_SI_k (by omega), q5, mI_SI_k (by omega), q3, mI_SI_k (by omega), q2, mI_SI_s]
    have i6 : mI h7 38 6 = nI g := by rw [q7, mI_SI_k (by omega), q6, mI_SI_k (by omega), q5, mI_SI_k (by omega), q3, mI_SI_s]
    have i2 : mI h7 38 2 = w4 := by rw [q7, mI_SI_k (by omega), q6, mI_SI_k (by omega), q5, mI_SI_s]
    have i3 : mI h7 38 3 = 0 := by rw [q7, mI_SI_k (by omega), q6, mI_SI_s]
    have i4 : mI h7 38 4 = 0 := by rw [q7, mI_SI_s]
    have hS7 := f7.1.sk hS
    have F7 : mFr2 aWy h h7 := f7.wk (fun x k z => Or.inl z)
    have w : w4 = 0 ↔ a ≠ g := by
      rw [q4]
      by_cases z : a = g
      · rw [if_neg (fun u => u (by rw [z]))]
        exact ⟨fun u => absurd u (by decide), fun u => (u z).elim⟩
      · rw [if_pos (show ¬ nI a = nI g from fun u => z (nI_bk (by omega) (by omega) u))]
        exact ⟨fun _ => z, fun _ => rfl⟩
    rw [i2]
    refine ⟨fun z => j_fill (N := 4096) 0 hS7 (skT_39 hS7) (skL_39 hS7) (by omega) (fun h8 f8 c8 => ⟨rfl, f8.1.sk hS7, skT_36 (f8.1.sk hS7), ?_⟩), fun z => K h7 F7 i7 i5 i6 (Or.inl ⟨Classical.byContradiction (fun u => z (w.mpr u)), ?_, i3, i4⟩)⟩
    · refine c10_seekL (S := S) hg ha (w.mp z) v K 1024 0 h8 1 (by omega) (f8.1.sk hS7) (F7.tr (f8.wk (fun x k z => Or.inr (Or.inl z)))) ?_ ?_ ?_ (fun k hk => ?_) (fun q k hq hk => Or.inl ⟨c8 _ (by omega), fun s t _ => Nat.zero_le _⟩) (Or.inl ⟨?_, fun q t s _ _ => Nat.zero_le _, fun u => absurd u (by decide)⟩)
      · rw [f8.2 _ _ (by omega)]; exact i7
      · rw [f8.2 _ _ (by omega)]; exact i5
      · rw [f8.2 _ _ (by omega)]; exact i6
      · rw [f8.2 _ _ (by omega), f7.2 _ _ (by omega)]; exact hs k hk
      · rw [f8.2 _ _ (by omega), i2]; exact z
    · rw [i2, q4]
      rw [if_neg (fun u => z (by rw [q4, if_pos u]))]
  refine qX10_seek 36 _ _ _ (skT_36 hS) hS ⟨fun _ => go, fun z => ⟨fun _ => go, fun z2 => ⟨fun _ => go, fun z3 => K h mFr2.rf z z2 z3 (ca z z2 z3)⟩⟩⟩
end
