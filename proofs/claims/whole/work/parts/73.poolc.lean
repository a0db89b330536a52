/-! pool (class) -/
def fB (h : mH) (x y : Nat) : Bool := bt (mI h 37 y) x
def bsB (h : mH) (x y : Nat) : Bool := (decide (0 < y) && fB h x (y - 1)) || (decide (y < 31) && fB h x (y + 1))
theorem cnt_mono {p q : Nat → Bool} : ∀ n, (∀ i, i < n → p i = true → q i = true) → cnt p n ≤ cnt q n
  | 0, _ => Nat.le_refl _
  | n + 1, h => by
    show cnt p n + (if p n then 1 else 0) ≤ cnt q n + (if q n then 1 else 0)
    have ih := cnt_mono n (fun i hi => h i (by omega))
    cases hp : p n with
    | false => show cnt p n + 0 ≤ _; omega
    | true => rw [h n (by omega) hp]; show cnt p n + 1 ≤ cnt q n + 1; omega
theorem cnt_strict {p q : Nat → Bool} {u : Nat} : ∀ n, (∀ i, i < n → p i = true → q i = true) → u < n → p u = false → q u = true → cnt p n < cnt q n
  | 0, _, h, _, _ => by omega
  | n + 1, h, hu, hp, hq => by
    show cnt p n + (if p n then 1 else 0) < cnt q n + (if q n then 1 else 0)
    by_cases e : u = n
    · subst e
      have := cnt_mono u (fun i hi => h i (by omega))
      rw [hp, hq]; show cnt p u + 0 < cnt q u + 1; omega
    · have ih := cnt_strict n (fun i hi => h i (by omega)) (by omega) hp hq
      cases hpn : p n with
      | false => show cnt p n + 0 < _; omega
      | true => rw [h n (by omega) hpn]; show cnt p n + 1 < cnt q n + 1; omega
theorem smN_mono {f g : Nat → Nat} : ∀ n, (∀ i, i < n → f i ≤ g i) → smN f n ≤ smN g n
  | 0, _ => Nat.le_refl _
  | n + 1, h => by
    have := smN_mono n (fun i hi => h i (by omega))
    have := h n (by omega)
    show smN f n + f n ≤ smN g n + g n
    omega
theorem smN_strict {f g : Nat → Nat} {u : Nat} : ∀ n, (∀ i, i < n → f i ≤ g i) → u < n → f u < g u → smN f n < smN g n
  | 0, _, h, _ => by omega
  | n + 1, h, hu, hlt => by
    have h1 := h n (by omega)
    show smN f n + f n < smN g n + g n
    by_cases e : u = n
    · subst e
      have := smN_mono u (fun i hi => h i (by omega))
      omega
    · have := smN_strict n (fun i hi => h i (by omega)) (by omega) hlt
      omega
theorem bt_sp (v : Int32) {x : Nat} (hx : x < 32) : bt ((v ||| m_shl v 1) ||| m_ushr v 1) x = true ↔ (bt v x = true ∨ (∃ x', x' < 32 ∧ (x = x' + 1 ∨ x' = x + 1) ∧ bt v x' = true)) := by
  rw [bt_or, bt_or, show bt (m_shl v 1) x = (decide (1 ≤ x) && bt v (x - 1)) from bt_shl 1 (by omega) v hx, show bt (m_ushr v 1) x = bt v (1 + x) from bt_ushr 1 (by omega) v x]
  constructor
  · intro z
    simp only [Bool.or_eq_true, Bool.and_eq_true, decide_eq_true_eq] at z
    rcases z with (z | ⟨z1, z2⟩) | z
    · exact Or.inl z
    · exact Or.inr ⟨x - 1, by omega, by omega, z2⟩
    · refine Or.inr ⟨x + 1, ?_, by omega, by rw [Nat.add_comm] at z; exact z⟩
      apply Classical.byContradiction; intro t
      rw [bt_big (by omega)] at z; cases z
  · rintro (z | ⟨x', h1, h2, h3⟩)
    · rw [z]; simp
    · rcases h2 with h2 | h2
      · have : x - 1 = x' := by omega
        rw [this, h3, decide_eq_true (by omega)]; simp
      · have : 1 + x = x' := by omega
        rw [this, h3]; simp
/-- what growing a row gives -/
def gpR (h : mH) (S : Nat → Nat → Bool) (y : Nat) (v : Int32) : Prop :=
  (∀ x, x < 32 → bt v x = true → S x y = true) ∧ (∀ x, x < 32 → S x y = true → (fB h x y = true ∨ bsB h x y = true) → bt v x = true) ∧ (∀ x x', x < 32 → x' < 32 → (x = x' + 1 ∨ x' = x + 1) → fB h x' y = true → S x' y = true → S x y = true → bt v x = true) ∧
  ∀ F : Nat → Prop, (∀ x, x < 32 → S x y = true → (fB h x y = true ∨ bsB h x y = true) → F x) → (∀ x x', x < 32 → x' < 32 → F x' → (x = x' + 1 ∨ x' = x + 1) → S x y = true → F x) → ∀ x, x < 32 → bt v x = true → F x
section
variable {G : mG} {d : Nat} {b : Nat × Nat} {h : mH} {Q : Option mV → mH → Prop}
theorem c0_besidePool {y : Nat} (hS : mSk h) (hy : y < 32) (K : ∀ v, (∀ x, x < 32 → bt v x = bsB h x y) → Q (some (.inl v)) h) : mC G kX0_besidePool d b [.inr (some 33), .inl (nI y)] h Q := by
  have i0 : nI y ≤ 0 ↔ y = 0 := by rw [show (0 : Int32) = nI 0 from rfl, nI_leI (by omega) (by omega)]; omega
  have i31 : 31 ≤ nI y ↔ 31 ≤ y := nI_leI (a := 31) (by omega) (by omega)
  have em : ¬ y = 0 → nI y - 1 = nI (y - 1) := fun q => by rw [show (1 : Int32) = nI 1 from rfl, pk_sub (by omega)]
  refine qX0_besidePool _ hS ?_
  rw [i0, i31, nI_1]
  have c1 := nI_clamp (n := y + 1) (by omega)
  rw [c1]
  refine ⟨fun q => ⟨fun q2 => by omega, fun q2 => ⟨vp_in_nI (by omega) (by omega), K _ (fun x hx => ?_)⟩⟩, fun q => ?_⟩
  · unfold bsB fB
    rw [bt_or, bt_0, decide_eq_false (by omega), decide_eq_true (show y < 31 by omega)]; simp
  · rw [em q, nI_clamp (show y - 1 < 2 ^ 31 by omega)]
    refine ⟨vp_in_nI (by omega) (by omega), fun q2 => K _ (fun x hx => ?_), fun q2 => ⟨vp_in_nI (by omega) (by omega), K _ (fun x hx => ?_)⟩⟩
    · unfold bsB fB
      rw [bt_or, bt_0, decide_eq_true (show 0 < y by omega), decide_eq_false (show ¬ y < 31 by omega)]; simp
    · unfold bsB fB
      rw [bt_or, decide_eq_true (show 0 < y by omega), decide_eq_true (show y < 31 by omega)]; simp
theorem c0_growPool {S : Nat → Nat → Bool} {y : Nat} (hS : mSk h) (hy : y < 32) (hs : ∀ x, x < 32 → bt (mI h 36 y) x = S x y) (K : ∀ v, gpR h S y v → Q (some (.inl (if v = mI h 37 y then 0 else 1))) (mSI h 37 y v)) : mC G kX0_growPool (d + 1) b [.inr (some 33), .inl (nI y)] h Q := by
  have vy := vp_in_nI (n := y) (N := 32) hy (by omega)
  have cy := nI_clamp (n := y) (by omega)
  refine qX0_growPool _ hS ⟨vy, c0_besidePool hS hy (fun bs hbs => ⟨_, rfl, hS, vy, ?_⟩)⟩
  rw [cy]
  obtain ⟨w0, hw0⟩ : ∃ w0, w0 = (mI h 37 y ||| bs) &&& mI h 36 y := ⟨_, rfl⟩
  have b0 : ∀ x, x < 32 → (bt w0 x = true ↔ (S x y = true ∧ (fB h x y = true ∨ bsB h x y = true))) := fun x hx => by
    rw [hw0, bt_and, bt_or, hs x hx, hbs x hx]
    unfold fB
    simp only [Bool.and_eq_true, Bool.or_eq_true]
    exact ⟨fun z => ⟨z.2, z.1⟩, fun z => ⟨z.2, z.1⟩⟩
  rw [← hw0]
  have lp : ∀ (r n : Nat) (v3 v4 : Int32), n + r = 32 → (∀ x, x < 32 → bt w0 x = true → bt v4 x = true) → (∀ x, x < 32 → bt v4 x = true → S x y = true) → (∀ F : Nat → Prop, (∀ x, x < 32 → S x y = true → (fB h x y = true ∨ bsB h x y = true) → F x) → (∀ x x', x < 32 → x' < 32 → F x' → (x = x' + 1 ∨ x' = x + 1) → S x y = true → F x) → ∀ x, x < 32 → bt v4 x = true → F x) → (0 < n → ∀ x x', x < 32 → x' < 32 → (x = x' + 1 ∨ x' = x + 1) → bt w0 x' = true → S x y = true → bt v4 x = true) → (n = 0 → v3 = 0 ∧ v4 = w0) →
      mW G kX0_growPool (d + 1) b 28 [some (.inr (some 33)), some (.inl (nI y)), some (.inl (mI h 37 y)), some (.inl v3), some (.inl v4), some (.inl (nI n))] [] h Q := by
    intro r
    induction r with
    | zero =>
      intro n v3 v4 hn a1 a2 a3 a4 a5
      refine qX0_growPool_28 _ _ _ _ _ hS ⟨fun _ => ⟨vy, fun h2 e2 w3 e3 => ?_⟩, fun z => absurd (nI_le (a := 32) (by omega) (by omega)) z⟩
      rw [e3, e2, cy]
      exact K v4 ⟨a2, fun x hx s z => a1 x hx ((b0 x hx).mpr ⟨s, z⟩), fun x x' hx hx' ad f s' s => a4 (by omega) x x' hx hx' ad ((b0 x' hx').mpr ⟨s', Or.inl f⟩) s, a3⟩
    | succ r ih =>
      intro n v3 v4 hn a1 a2 a3 a4 a5
      refine qX0_growPool_28 _ _ _ _ _ hS ⟨fun z => absurd z (nI_ge (b := 32) (by omega) (by omega)), fun _ => ⟨fun z => ⟨vy, fun h2 e2 w3 e3 => ?_⟩, fun z => ⟨vy, ?_⟩⟩⟩
      · rw [e3, e2, cy]
        refine K v4 ⟨a2, fun x hx s t => a1 x hx ((b0 x hx).mpr ⟨s, t⟩), fun x x' hx hx' ad f s' s => ?_, a3⟩
        by_cases n0 : n = 0
        · obtain ⟨e1, e2'⟩ := a5 n0
          have : bt w0 x' = true := (b0 x' hx').mpr ⟨s', Or.inl f⟩
          rw [← e2', z, e1, bt_0] at this
          cases this
        · exact a4 (by omega) x x' hx hx' ad ((b0 x' hx').mpr ⟨s', Or.inl f⟩) s
      · rw [nI_1, cy]
        have bb : ∀ x, x < 32 → (bt (((v4 ||| m_shl v4 1) ||| m_ushr v4 1) &&& mI h 36 y) x = true ↔ ((bt v4 x = true ∨ (∃ x', x' < 32 ∧ (x = x' + 1 ∨ x' = x + 1) ∧ bt v4 x' = true)) ∧ S x y = true)) := fun x hx => by
          rw [bt_and, Bool.and_eq_true, bt_sp v4 hx, hs x hx]
        refine ih (n + 1) v4 _ (by omega) (fun x hx t => (bb x hx).mpr ⟨Or.inl (a1 x hx t), a2 x hx (a1 x hx t)⟩) (fun x hx t => ((bb x hx).mp t).2) (fun F f1 f2 x hx t => ?_) (fun _ x x' hx hx' ad t s => (bb x hx).mpr ⟨Or.inr ⟨x', hx', ad, a1 x' hx' t⟩, s⟩) (fun t => by omega)
        obtain ⟨u, s⟩ := (bb x hx).mp t
        rcases u with u | ⟨x', hx', ad, u⟩
        · exact a3 F f1 f2 x hx u
        · exact f2 x x' hx hx' (a3 F f1 f2 x' hx' u) ad s
  exact lp 32 0 0 w0 (by omega) (fun x hx t => t) (fun x hx t => ((b0 x hx).mp t).1) (fun F f1 f2 x hx t => f1 x hx ((b0 x hx).mp t).1 ((b0 x hx).mp t).2) (fun t => by omega) (fun _ => ⟨rfl, rfl⟩)
/-- a row from which nothing grows -/
def clR (h : mH) (S : Nat → Nat → Bool) (y : Nat) : Prop := ∀ x, x < 32 → S x y = true → (bsB h x y = true ∨ ∃ x', x' < 32 ∧ (x = x' + 1 ∨ x' = x + 1) ∧ fB h x' y = true) → fB h x y = true
def okF (h : mH) (S : Nat → Nat → Bool) (x0 y0 : Nat) : Prop := ∀ x y, x < 32 → y < 32 → fB h x y = true → S x y = true ∧ plP S x0 y0 x y
theorem bsB_ex {x y : Nat} (hx : x < 32) (hy : y < 32) : bsB h x y = true ↔ ∃ y', y' < 32 ∧ (y = y' + 1 ∨ y' = y + 1) ∧ fB h x y' = true := by
  unfold bsB
  simp only [Bool.or_eq_true, Bool.and_eq_true, decide_eq_true_eq]
  constructor
  · rintro (⟨h1, h2⟩ | ⟨h1, h2⟩)
    · exact ⟨y - 1, by omega, by omega, h2⟩
    · exact ⟨y + 1, by omega, by omega, h2⟩
  · rintro ⟨y', h1, h2, h3⟩
    rcases h2 with h2 | h2
    · have e : y - 1 = y' := by omega
      rw [e]; exact Or.inl ⟨by omega, h3⟩
    · rw [← h2]; exact Or.inr ⟨by omega, h3⟩
set_option maxHeartbeats 1000000 in
theorem c0_fillPool {S : Nat → Nat → Bool} {x0 y0 : Nat} (hS : mSk h) (hx0 : x0 < 32) (hy0 : y0 < 32) (hs : ∀ x y, x < 32 → y < 32 → bt (mI h 36 y) x = S x y) (K : ∀ h', mFr2 (fun a _ => a = 37) h h' → (∀ x y, x < 32 → y < 32 → fB h' x y = plB S x0 y0 x y) → Q none h') : mC G kX0_fillPool (d + 2) b [.inr (some 33), .inl (nI x0), .inl (nI y0)] h Q := by
  -- the end
  have fin : ∀ h1, mFr2 (fun a _ => a = 37) h h1 → okF h1 S x0 y0 → (S x0 y0 = true → fB h1 x0 y0 = true) → (∀ y, y < 32 → clR h1 S y) → Q none h1 := by
    intro h1 f1 ok st cl
    refine K h1 f1 (fun x y hx hy => bool_iff ?_)
    rw [plB_t]
    constructor
    · intro z; exact (ok x y hx hy z).2
    · intro z
      have mn := plP_min (S := S) (x0 := x0) (y0 := y0) (F := fun x y => x < 32 ∧ y < 32 → fB h1 x y = true) (fun s _ => st s) (fun x y x' y' hx' hy' hF a s hxy => by
        have hp := hF ⟨hx', hy'⟩
        refine cl y hxy.2 x hxy.1 s ?_
        rcases a with ⟨e, a⟩ | ⟨e, a⟩
        · refine Or.inl ((bsB_ex hxy.1 hxy.2).mpr ⟨y', hy', by omega, ?_⟩)
          rw [e]; exact hp
        · refine Or.inr ⟨x', hx', by omega, ?_⟩
          rw [e]; exact hp)
      exact mn x y z ⟨hx, hy⟩
  have ble : ∀ h1 : mH, bsN h1 37 0 ≤ 32 * 32 := fun h1 => smN_le (fun y => cnt_le _ 32) 32
  -- one sweep
  have sweep : ∀ (s : Nat) (h1 : mH), s < 1024 → mFr2 (fun a _ => a = 37) h h1 → okF h1 S x0 y0 → (S x0 y0 = true → fB h1 x0 y0 = true) →
      (∀ (h2 : mH) (g : Int32), mFr2 (fun a _ => a = 37) h h2 → okF h2 S x0 y0 → (S x0 y0 = true → fB h2 x0 y0 = true) → ((g = 0 ∧ ∀ y, y < 32 → clR h2 S y) ∨ (g = 1 ∧ bsN h1 37 0 < bsN h2 37 0)) → mW G kX0_fillPool (d + 2) b 42 [some (.inr (some 33)), none, none, some (.inl g), some (.inl (nI (s + 1))), none] [] h2 Q) →
      mW G kX0_fillPool (d + 2) b 59 [some (.inr (some 33)), none, none, some (.inl 0), some (.inl (nI s)), some (.inl 0)] [] h1 Q := by
    intro s h1 hs1 f1 ok1 st1 KS
    have hrow : ∀ (r k : Nat) (h2 : mH) (g : Int32), k + r = 64 → mFr2 (fun a _ => a = 37) h h2 → okF h2 S x0 y0 → (∀ x y, x < 32 → y < 32 → fB h1 x y = true → fB h2 x y = true) → ((g = 0 ∧ (∀ y, y < 32 → mI h2 37 y = mI h1 37 y) ∧ ∀ k', k' < k → clR h1 S (if k' < 32 then k' else 63 - k')) ∨ (g = 1 ∧ bsN h1 37 0 < bsN h2 37 0)) →
        mW G kX0_fillPool (d + 2) b 59 [some (.inr (some 33)), none, none, some (.inl g), some (.inl (nI s)), some (.inl (nI k))] [] h2 Q := by
      intro r
      induction r with
      | zero =>
        intro k h2 g hk f2 ok2 mo st
        refine qX0_fillPool_59 _ _ _ (f2.1.sk hS) ⟨fun _ => ?_, fun z => absurd (nI_le (a := 64) (by omega) (by omega)) z⟩
        rw [nI_1]
        refine KS h2 g f2 ok2 (fun q => mo x0 y0 hx0 hy0 (st1 q)) ?_
        rcases st with ⟨g0, e, c⟩ | q
        · refine Or.inl ⟨g0, fun y hy => ?_⟩
          have cy := c y (by omega)
          rw [if_pos hy] at cy
          intro x hx sx z
          have eqf : ∀ x' y', y' < 32 → fB h2 x' y' = fB h1 x' y' := fun x' y' hy' => by unfold fB; rw [e y' hy']
          rw [eqf x y hy]
          refine cy x hx sx ?_
          rcases z with z | ⟨x', hx', ad, z⟩
          · obtain ⟨y', hy', ad, z'⟩ := (bsB_ex hx hy).mp z
            rw [eqf x y' hy'] at z'
            exact Or.inl ((bsB_ex hx hy).mpr ⟨y', hy', ad, z'⟩)
          · rw [eqf x' y hy] at z
            exact Or.inr ⟨x', hx', ad, z⟩
        · exact Or.inr q
      | succ r ih =>
        intro k h2 g hk f2 ok2 mo st
        have hS2 := f2.1.sk hS
        obtain ⟨y, hy⟩ : ∃ y, y = if k < 32 then k else 63 - k := ⟨_, rfl⟩
        have hy32 : y < 32 := by rw [hy]; split <;> omega
        refine qX0_fillPool_59 _ _ _ hS2 ⟨fun z => absurd z (nI_ge (b := 64) (by omega) (by omega)), fun _ w1 e1 => ?_⟩
        have ew : w1 = nI y := by
          have i32 : 32 ≤ nI k ↔ 32 ≤ k := nI_leI (a := 32) (by omega) (by omega)
          rw [e1, hy]
          by_cases q : k < 32
          · rw [if_neg (fun t => by have := i32.mp t; omega), if_pos q]
          · rw [if_pos (i32.mpr (by omega)), if_neg q, show (63 : Int32) = nI 63 from rfl, pk_sub (by omega)]
        rw [ew]
        refine c0_growPool (S := S) hS2 hy32 (fun x hx => by rw [f2.2 _ _ (by omega)]; exact hs x y hx hy32) (fun v gp => ⟨_, rfl, sk_SI hS2, fun w4 e4 => ?_⟩)
        obtain ⟨p1, p2, p3, p4⟩ := gp
        have f3 : mFr2 (fun a _ => a = 37) h (mSI h2 37 y v) := f2.tr (mFr2.SI rfl)
        have eF : ∀ x y', y' ≠ y → fB (mSI h2 37 y v) x y' = fB h2 x y' := fun x y' q => by unfold fB; rw [mI_SI_k q]
        have eFy : ∀ x, fB (mSI h2 37 y v) x y = bt v x := fun x => by unfold fB; rw [mI_SI_s]
        have sub : ∀ x, x < 32 → fB h2 x y = true → bt v x = true := fun x hx q => p2 x hx (ok2 x y hx hy32 q).1 (Or.inl q)
        have mo2 : ∀ x y', x < 32 → y' < 32 → fB h2 x y' = true → fB (mSI h2 37 y v) x y' = true := fun x y' hx hy' q => by
          by_cases e : y' = y
          · rw [e] at q ⊢; rw [eFy]; exact sub x hx q
          · rw [eF x y' e]; exact q
        have ok3 : okF (mSI h2 37 y v) S x0 y0 := by
          intro x y' hx hy' q
          by_cases e : y' = y
          · rw [e] at q ⊢
            rw [eFy] at q
            refine ⟨p1 x hx q, p4 (fun x => plP S x0 y0 x y) (fun x hx s z => ?_) (fun x x' hx hx' z ad s => plP_st z hx' hy32 (Or.inr ⟨rfl, by omega⟩) s) x hx q⟩
            rcases z with z | z
            · exact (ok2 x y hx hy32 z).2
            · obtain ⟨y'', hy'', ad, z'⟩ := (bsB_ex hx hy32).mp z
              exact plP_st (ok2 x y'' hx hy'' z').2 hx hy'' (Or.inl ⟨rfl, by omega⟩) s
          · rw [eF x y' e] at q; exact ok2 x y' hx hy' q
        rw [nI_1]
        refine ih (k + 1) (mSI h2 37 y v) w4 (by omega) f3 ok3 (fun x y' hx hy' q => mo2 x y' hx hy' (mo x y' hx hy' q)) ?_
        by_cases ev : v = mI h2 37 y
        · rw [if_pos ev, if_neg (fun t => t rfl)] at e4
          have same : ∀ y', mI (mSI h2 37 y v) 37 y' = mI h2 37 y' := fun y' => by
            by_cases e : y' = y
            · rw [e, mI_SI_s]; exact ev
            · rw [mI_SI_k e]
          rcases st with ⟨g0, e, c⟩ | ⟨g1, q⟩
          · rw [if_pos g0] at e4
            refine Or.inl ⟨e4, fun y' hy' => by rw [same]; exact e y' hy', fun k' hk' => ?_⟩
            by_cases ek : k' = k
            · rw [ek, ← hy]
              intro x hx sx z
              have eqf : ∀ x' y', y' < 32 → fB h2 x' y' = fB h1 x' y' := fun x' y' hy' => by unfold fB; rw [e y' hy']
              have : bt v x = true := by
                rcases z with z | ⟨x', hx', ad, z⟩
                · obtain ⟨y', hy', ad, z'⟩ := (bsB_ex hx hy32).mp z
                  rw [← eqf x y' hy'] at z'
                  exact p2 x hx sx (Or.inr ((bsB_ex hx hy32).mpr ⟨y', hy', ad, z'⟩))
                · rw [← eqf x' y hy32] at z
                  exact p3 x x' hx hx' ad z (ok2 x' y hx' hy32 z).1 sx
              rw [ev] at this
              rw [← eqf x y hy32]; exact this
            · exact c k' (by omega)
          · rw [g1, if_neg (by decide)] at e4
            refine Or.inr ⟨e4, ?_⟩
            have : bsN (mSI h2 37 y v) 37 0 = bsN h2 37 0 := by
              unfold bsN
              exact smN_cong 32 (fun i _ => by rw [same])
            rw [this]; exact q
        · have e4' : w4 = 1 := by rw [e4, if_neg ev, if_pos (by decide)]
          refine Or.inr ⟨e4', ?_⟩
          have hlt : bsN h2 37 0 < bsN (mSI h2 37 y v) 37 0 := by
            have hex : ∃ x, x < 32 ∧ fB h2 x y = false ∧ bt v x = true := by
              apply Classical.byContradiction
              intro t
              apply ev
              apply bt_ext
              intro x hx
              apply bool_iff
              constructor
              · intro q
                cases hb : bt (mI h2 37 y) x with
                | true => rfl
                | false => exact absurd ⟨x, hx, hb, q⟩ t
              · intro q; exact sub x hx q
            obtain ⟨x, hx, q1, q2⟩ := hex
            unfold bsN
            refine smN_strict (u := y) 32 (fun i hi => cnt_mono 32 (fun x hx q => ?_)) hy32 ?_
            · rw [Nat.zero_add] at q ⊢
              exact mo2 x i hx hi q
            · refine cnt_strict (u := x) 32 (fun x hx q => ?_) hx ?_ ?_
              · rw [Nat.zero_add] at q ⊢
                exact mo2 x y hx hy32 q
              · rw [Nat.zero_add]; exact q1
              · rw [Nat.zero_add, mI_SI_s]; exact q2
          have hle : bsN h1 37 0 ≤ bsN h2 37 0 := by
            unfold bsN
            refine smN_mono 32 (fun i hi => cnt_mono 32 (fun x hx q => ?_))
            rw [Nat.zero_add] at q ⊢
            exact mo x i hx hi q
          omega
    exact hrow 64 0 h1 0 (by omega) f1 ok1 (fun x y _ _ q => q) (Or.inl ⟨rfl, fun y _ => rfl, fun k' z => by omega⟩)
  -- all sweeps
  have lp : ∀ (r s : Nat) (h1 : mH) (g : Int32), s + r = 1024 → mFr2 (fun a _ => a = 37) h h1 → okF h1 S x0 y0 → (S x0 y0 = true → fB h1 x0 y0 = true) → ((g = 0 ∧ ∀ y, y < 32 → clR h1 S y) ∨ (g = 1 ∧ s + 1 ≤ bsN h1 37 0)) →
      mW G kX0_fillPool (d + 2) b 42 [some (.inr (some 33)), none, none, some (.inl g), some (.inl (nI s)), none] [] h1 Q := by
    intro r
    induction r with
    | zero =>
      intro s h1 g hs1 f1 ok st q
      rcases q with ⟨g0, c⟩ | ⟨g1, c⟩
      · exact qX0_fillPool_42 _ _ (f1.1.sk hS) ⟨fun _ => fin h1 f1 ok st c, fun z => absurd g0 z⟩
      · have := ble h1; omega
    | succ r ih =>
      intro s h1 g hs1 f1 ok st q
      rcases q with ⟨g0, c⟩ | ⟨g1, c⟩
      · exact qX0_fillPool_42 _ _ (f1.1.sk hS) ⟨fun _ => fin h1 f1 ok st c, fun z => absurd g0 z⟩
      · refine qX0_fillPool_42 _ _ (f1.1.sk hS) ⟨fun z => absurd z (by rw [g1]; decide), fun _ => ⟨fun z => absurd z (nI_ge (b := 1024) (by omega) (by omega)), fun _ => sweep s h1 (by omega) f1 ok st (fun h2 g f2 ok2 st2 q2 => ih (s + 1) h2 g (by omega) f2 ok2 st2 ?_)⟩⟩
        rcases q2 with q2 | ⟨q3, q4⟩
        · exact Or.inl q2
        · exact Or.inr ⟨q3, by omega⟩
  have vy := vp_in_nI (n := y0) (N := 32) hy0 (by omega)
  have cy := nI_clamp (n := y0) (by omega)
  refine qX0_fillPool _ _ hS (j_fill (N := 32) 0 hS (skT_37 hS) (skL_37 hS) (by omega) (fun h1 f1 c1 => ⟨rfl, f1.1.sk hS, vy, vy, fun h4 e4 => ⟨vy, fun w6 e6 => ?_⟩⟩))
  rw [cy] at e4 e6
  have f4 : mFr2 (fun a _ => a = 37) h h4 := f1.tr (by rw [e4]; exact mFr2.SI rfl)
  have bv : ∀ x, x < 32 → bt (m_shl 1 (nI x0) &&& mI h1 36 y0) x = (decide (x = x0) && S x0 y0) := fun x hx => by
    have h1 := bt_setb 0 (n := x0) (i := x) hx0 hx
    rw [show (0 : Int32) ||| m_shl 1 (nI x0) = m_shl 1 (nI x0) from by simp, bt_0, Bool.false_or] at h1
    rw [bt_and, h1, f1.2 _ _ (by omega), hs x y0 hx hy0]
    by_cases e : x = x0
    · rw [e]
    · rw [decide_eq_false e]; rfl
  have eb : ∀ x y, x < 32 → y < 32 → fB h4 x y = (decide (x = x0 ∧ y = y0) && S x0 y0) := fun x y hx hy => by
    unfold fB
    rw [e4]
    by_cases e : y = y0
    · rw [e, mI_SI_s, bv x hx]
      by_cases e2 : x = x0
      · rw [decide_eq_true e2, decide_eq_true ⟨e2, rfl⟩]
      · rw [decide_eq_false e2, decide_eq_false (fun t => e2 t.1)]
    · rw [mI_SI_k e, c1 y hy, bt_0, decide_eq_false (fun t => e t.2)]; rfl
  have ok4 : okF h4 S x0 y0 := by
    intro x y hx hy q
    rw [eb x y hx hy, Bool.and_eq_true, decide_eq_true_iff] at q
    obtain ⟨⟨e1, e2⟩, e3⟩ := q
    subst e1; subst e2
    exact ⟨e3, plP_0 e3⟩
  refine lp 1024 0 h4 w6 (by omega) f4 ok4 (fun q => by rw [eb x0 y0 hx0 hy0, q, decide_eq_true ⟨rfl, rfl⟩]; rfl) ?_
  cases hs0 : S x0 y0 with
  | true =>
    right
    have hb : fB h4 x0 y0 = true := by rw [eb x0 y0 hx0 hy0, hs0, decide_eq_true ⟨rfl, rfl⟩]; rfl
    have hne : ¬ mI h4 37 y0 = 0 := fun t => by
      unfold fB at hb
      rw [t, bt_0] at hb; cases hb
    refine ⟨by rw [e6, if_neg hne], ?_⟩
    have h0 : bsN h4 37 0 ≠ 0 := fun t => by
      unfold bsN at t
      have := (cnt_z 32).mp ((smN_0 32).mp t y0 hy0) x0 hx0
      rw [Nat.zero_add] at this
      unfold fB at hb
      rw [this] at hb; cases hb
    omega
  | false =>
    left
    have no : ∀ x y, x < 32 → y < 32 → fB h4 x y = false := fun x y hx hy => by rw [eb x y hx hy, hs0, Bool.and_false]
    have hz : mI h4 37 y0 = 0 := by
      apply bt_ext
      intro i hi
      rw [bt_0]; exact no i y0 hi hy0
    refine ⟨by rw [e6, if_pos hz], fun y hy x hx sx z => ?_⟩
    rcases z with z | ⟨x', hx', ad, z⟩
    · obtain ⟨y', hy', ad, z'⟩ := (bsB_ex hx hy).mp z
      rw [no x y' hx hy'] at z'; cases z'
    · rw [no x' y hx' hy] at z; cases z
theorem c0_wallCells {S L : Nat → Nat → Bool} {x0 y0 : Nat} (v1 : Int32) {l : Bool} (e1 : v1 = b2i l) (hS : mSk h) (hs : ∀ x y, x < 32 → y < 32 → bt (mI h 36 y) x = S x y) (hl : ∀ x y, x < 32 → y < 32 → bt (mI h 35 y) x = L x y) (hF : ∀ x y, x < 32 → y < 32 → fB h x y = plB S x0 y0 x y)
    (K : Q (some (.inl (nI (cnt (fun k => wlB S x0 y0 (k % 32) (k / 32) && !(l && L (k % 32) (k / 32))) 1024)))) h) : mC G kX0_wallCells (d + 1) b [.inr (some 33), .inl v1] h Q := by
  subst e1
  have ec : cnt (fun k => wlB S x0 y0 (k % 32) (k / 32) && !(l && L (k % 32) (k / 32))) 1024 = smN (fun y => cnt (fun x => wlB S x0 y0 x y && !(l && L x y)) 32) 32 := by
    rw [show 1024 = 32 * 32 from rfl, cnt_rows]
    refine smN_cong 32 (fun y hy => cnt_cong 32 (fun x hx => ?_))
    rw [show (32 * y + x) % 32 = x by omega, show (32 * y + x) / 32 = y by omega]
  rw [ec] at K
  refine qX0_wallCells _ hS ?_
  refine mloop (W := fun y h1 => mW G kX0_wallCells (d + 1) b 4 [some (.inr (some 33)), some (.inl (b2i l)), some (.inl (nI (smN (fun y => cnt (fun x => wlB S x0 y0 x y && !(l && L x y)) 32) y))), some (.inl (nI y)), none] [] h1 Q) (P := fun y h1 => h1 = h) 32 ?_ ?_ 0 h (by omega) rfl
  · rintro y h1 hy rfl ih
    have ih2 := ih h1 rfl
    have vy := vp_in_nI (n := y) (N := 32) hy (by omega)
    refine qX0_wallCells_4 _ _ _ hS ⟨fun z => absurd z (nI_ge (b := 32) hy (by omega)), fun _ => ⟨vy, vy, c0_besidePool hS hy (fun bs hbs => ⟨_, rfl, hS, vy, ?_⟩)⟩⟩
    rw [nI_clamp (show y < 2 ^ 31 by omega), nI_1]
    have bw : ∀ x, x < 32 → bt (((m_shl (mI h1 37 y) 1 ||| m_ushr (mI h1 37 y) 1) ||| bs) &&& m_not (mI h1 36 y)) x = wlB S x0 y0 x y := fun x hx => by
      apply bool_iff
      rw [wlB_t, bt_and, bt_or, bt_not _ hx, hs x y hx hy, hbs x hx, Bool.and_eq_true, Bool.or_eq_true]
      have hsp := bt_sp (mI h1 37 y) hx
      have hx2 : bt (m_shl (mI h1 37 y) 1 ||| m_ushr (mI h1 37 y) 1) x = true ↔ ∃ x', x' < 32 ∧ (x = x' + 1 ∨ x' = x + 1) ∧ fB h1 x' y = true := by
        rw [bt_or, show bt (m_shl (mI h1 37 y) 1) x = (decide (1 ≤ x) && bt (mI h1 37 y) (x - 1)) from bt_shl 1 (by omega) _ hx, show bt (m_ushr (mI h1 37 y) 1) x = bt (mI h1 37 y) (1 + x) from bt_ushr 1 (by omega) _ x]
        constructor
        · intro z
          simp only [Bool.or_eq_true, Bool.and_eq_true, decide_eq_true_eq] at z
          rcases z with ⟨z1, z2⟩ | z
          · exact ⟨x - 1, by omega, by omega, z2⟩
          · refine ⟨x + 1, ?_, by omega, by rw [Nat.add_comm] at z; exact z⟩
            apply Classical.byContradiction; intro t
            rw [bt_big (by omega)] at z; cases z
        · rintro ⟨x', q1, q2, q3⟩
          unfold fB at q3
          rcases q2 with q2 | q2
          · have : x - 1 = x' := by omega
            rw [this, q3, decide_eq_true (by omega)]; simp
          · have : 1 + x = x' := by omega
            rw [this, q3]; simp
      rw [hx2, bsB_ex hx hy]
      constructor
      · rintro ⟨z, s⟩
        refine ⟨by simpa using s, ?_⟩
        rcases z with ⟨x', q1, q2, q3⟩ | ⟨y', q1, q2, q3⟩
        · rw [hF x' y q1 hy] at q3
          exact ⟨x', y, q1, hy, Or.inr ⟨rfl, by omega⟩, plB_t.mp q3⟩
        · rw [hF x y' hx q1] at q3
          exact ⟨x, y', hx, q1, Or.inl ⟨rfl, by omega⟩, plB_t.mp q3⟩
      · rintro ⟨s, x', y', q1, q2, a, p⟩
        refine ⟨?_, by rw [s]; rfl⟩
        rcases a with ⟨e, a⟩ | ⟨e, a⟩
        · subst e
          exact Or.inr ⟨y', q2, by omega, by rw [hF x y' hx q2]; exact plB_t.mpr p⟩
        · subst e
          exact Or.inl ⟨x', q1, by omega, by rw [hF x' y q1 hy]; exact plB_t.mpr p⟩
    refine ⟨fun z => ?_, fun z => ⟨vy, ?_⟩⟩
    · have l0 := b2i_0.mp z
      rw [bitCount_eq, nI_add, cnt_cong (q := fun x => wlB S x0 y0 x y && !(l && L x y)) 32 (fun x hx => by rw [bw x hx, l0]; simp)]
      exact ih2
    · have l1 : l = true := by
        cases l with
        | true => rfl
        | false => exact absurd rfl z
      rw [bitCount_eq, nI_add, cnt_cong (q := fun x => wlB S x0 y0 x y && !(l && L x y)) 32 (fun x hx => by rw [bt_and, bw x hx, bt_not _ hx, hl x y hx hy, l1]; simp)]
      exact ih2
  · rintro h1 rfl
    exact qX0_wallCells_4 _ _ _ hS ⟨fun _ => K, fun z => absurd (by decide) z⟩
theorem c11_pool (v1 v2 v3 : Int32) {W : aW} {I : Nat → Nat} (hS : mSk h) (st : cSt h W I) (sc : suC h W I) (K1 : ¬ (¬ f_X11_inGrid v1 v2 = 0 ∧ ¬ f_X11_within v3 0 2 = 0) → Q (some (.inl (-1))) h)
    (K2 : ∀ x y w, x < 32 → y < 32 → w ≤ 2 → v1 = nI x → v2 = nI y → v3 = nI w → ∀ h', mFr2 (fun a k => aSu a k ∨ a = 37) h h' → cSt h' W I → flK h h' W I → suC h' W I → (noFit W → Q (some (.inl (-2))) h') ∧ (¬ noFit W → Q (some (.inl (nI (poA W x y w)))) h')) : mC G kX11_pool (d + 7) b [.inr (some 8), .inl v1, .inl v2, .inl v3] h Q := by
  have hn8 := st.1.1.2.1
  refine qX11_pool _ _ _ hS ⟨fun z => K1 (fun u => u.1 z), fun g => ⟨fun i => ?_, fun z => K1 (fun u => u.2 z)⟩⟩
  obtain ⟨x, y, hx, hy, ex, ey⟩ := grid_ex g
  obtain ⟨w, hw, ew⟩ := wi_ex (m := 2) (by omega) i
  have K := K2 x y w hx hy hw ex ey ew
  rw [ex, ey, ew]
  refine c0_survey hS st sc (fun h1 f1 s1 k1 c1 r1 => ⟨rfl, f1.1.sk hS, fun z => ?_, fun z => (K h1 (f1.wk (fun a k z => Or.inl z)) s1 k1 c1).1 ((isFi_0 hn8 r1.1).mp z)⟩)
  have hS1 := f1.1.sk hS
  have nf : ¬ noFit W := fun q => z ((isFi_0 hn8 r1.1).mpr q)
  have rb := r1.2.2.2 nf
  have esw : ∀ x y, slB W false x y = swB W x y := fun x y => bool_iff (by rw [slB_t, swB_t]; exact ⟨fun t => ⟨nf, t⟩, fun t => t.2⟩)
  refine c0_fillPool (d := d + 4) (S := swB W) hS1 hx hy (fun x y hx hy => by rw [(rb x y hx hy).2, esw]) (fun h2 f2 c2 => ⟨rfl, f2.1.sk hS1, ?_⟩)
  have hS2 := f2.1.sk hS1
  have s2 : cSt h2 W I := s1.ca (f2.wk (fun a k z => by unfold aCa; omega))
  have k2 : flK h1 h2 W I := flK.lo s1.1 f2 (fun a k q z => by omega)
  have c2' : suC h2 W I := c1.fr f2 k2 (by omega) (by omega) (by omega) (fun k => ⟨by omega, by omega⟩)
  have K4 := (K h2 ((f1.wk (fun a k z => Or.inl z)).tr (f2.wk (fun a k z => Or.inr z))) s2 (k1.tr k2) c2').2 nf
  unfold poA at K4
  have w0 : nI w = 0 ↔ w = 0 := nI_eq (b := 0) (by omega) (by omega)
  have w2 : nI w = 2 ↔ w = 2 := nI_eq (b := 2) (by omega) (by omega)
  rw [w0]
  refine ⟨fun q0 w3 e3 => ?_, fun q0 => ?_⟩
  · rw [if_neg q0] at K4
    have e3' : w3 = b2i (decide (w = 2)) := by
      rw [e3]
      by_cases q2 : w = 2
      · rw [if_neg (fun t => t (w2.mpr q2)), decide_eq_true q2]; rfl
      · rw [if_pos (fun t => q2 (w2.mp t)), decide_eq_false q2]; rfl
    refine c0_wallCells (d := d + 5) (S := swB W) (L := slB W true) w3 e3' hS2 (fun x y hx hy => by rw [f2.2 _ _ (by omega), (rb x y hx hy).2, esw]) (fun x y hx hy => by rw [f2.2 _ _ (by omega), (rb x y hx hy).1]) c2 ⟨_, rfl, hS2, ?_⟩
    by_cases q1 : w = 1
    · rw [if_pos q1] at K4
      rw [cnt_cong (q := fun k => wlB (swB W) x y (k % 32) (k / 32)) 1024 (fun k _ => by rw [decide_eq_false (show ¬ w = 2 by omega)]; simp)]
      exact K4
    · rw [if_neg q1] at K4
      rw [cnt_cong (q := fun k => wlB (swB W) x y (k % 32) (k / 32) && !slB W true (k % 32) (k / 32)) 1024 (fun k _ => by rw [decide_eq_true (show w = 2 by omega)]; simp)]
      exact K4
  · rw [if_pos q0] at K4
    rw [show (0 : Int32) = nI 0 from rfl]
    refine c11_bitsIn (d := d + 5) (N := 32) hS2 (skT_37 hS2) (skL_37 hS2) (by omega) (by omega) ⟨_, rfl, hS2, ?_⟩
    have eb : bsN h2 37 0 = cnt (fun k => plB (swB W) x y (k % 32) (k / 32)) 1024 := by
      rw [show 1024 = 32 * 32 from rfl, cnt_rows]
      unfold bsN
      refine smN_cong 32 (fun y' hy' => cnt_cong 32 (fun x' hx' => ?_))
      rw [Nat.zero_add, show (32 * y' + x') % 32 = x' by omega, show (32 * y' + x') / 32 = y' by omega]; exact c2 x' y' hx' hy'
    rw [eb]; exact K4
end
