/-! which coasts fit; sure (model) -/
theorem bt_shr0 (x : Int32) {n : Nat} (hn : n < 32) : bt (m_shr x (nI n)) 0 = bt x n := by
  unfold m_shr bt
  rw [Int32.toBitVec_shiftRight, BitVec.sshiftRight_eq', bt_amt n hn, BitVec.getLsbD_sshiftRight]
  simp [hn]
theorem askS (v : Int32) {n : Nat} (hn : n < 32) : ((m_shr v (nI n)) &&& 1) = b2i (bt v n) := by
  apply bt_ext
  intro i hi
  rw [bt_and, bt_one hi]
  by_cases h0 : i = 0
  · subst h0
    rw [bt_shr0 v hn]
    cases bt v n <;> simp [b2i] <;> decide
  · rw [decide_eq_false h0, Bool.and_false]
    cases bt v n with
    | true => show false = bt 1 i; rw [bt_one hi, decide_eq_false h0]
    | false => show false = bt 0 i; rw [bt_0]
def isFi (v : Int32) (W : aW) : Prop := ∀ i, i < 32 → bt v i = (decide (i < wn W) && wFit W i)
theorem isFi_one {v v' : Int32} {W : aW} (h1 : isFi v W) (h2 : isFi v' W) : v = v' := bt_ext (fun i hi => by rw [h1 i hi, h2 i hi])
def noFit (W : aW) : Prop := ∀ c, c < wn W → wFit W c = false
theorem isFi_0 {v : Int32} {W : aW} (hn : wn W ≤ 8) (h : isFi v W) : v = 0 ↔ noFit W := by
  constructor
  · intro e c hc
    have := h c (by omega)
    rw [e, bt_0, decide_eq_true hc] at this
    simpa using this.symm
  · intro e
    apply bt_ext
    intro i hi
    rw [h i hi, bt_0]
    by_cases q : i < wn W
    · rw [e i q]; simp
    · simp [q]
/-- the lowest that fits, from c on, in which a cell is land (or water) -/
noncomputable def loF (W : aW) (x y : Nat) (b : Bool) : Nat → Nat → Int32
  | 0, _ => -1
  | r + 1, c => if wFit W c = true ∧ coLand (wC W c) x y = b then nI c else loF W x y b r (c + 1)
theorem loF_0 (W : aW) (x y : Nat) (b : Bool) (c : Nat) : loF W x y b 0 c = -1 := rfl
theorem loF_s (W : aW) (x y : Nat) (b : Bool) (r c : Nat) : loF W x y b (r + 1) c = if wFit W c = true ∧ coLand (wC W c) x y = b then nI c else loF W x y b r (c + 1) := rfl
noncomputable def loV (W : aW) (x y : Nat) (b : Bool) : Int32 := loF W x y b (wn W) 0
theorem nI_nm1 {n : Nat} (hn : n < 1000) : ¬ nI n = (-1 : Int32) := fun z => by
  have := congrArg Int32.toInt z
  rw [nI_toI (by omega)] at this
  have e2 : ((-1 : Int32)).toInt = -1 := by decide
  omega
theorem loF_m1 {W : aW} {x y : Nat} {b : Bool} : ∀ r c, c + r < 1000 → (loF W x y b r c = -1 ↔ ∀ j, c ≤ j → j < c + r → wFit W j = true → ¬ coLand (wC W j) x y = b)
  | 0, c, _ => ⟨fun _ j h1 h2 => by omega, fun _ => rfl⟩
  | r + 1, c, h => by
    have ih := loF_m1 (W := W) (x := x) (y := y) (b := b) r (c + 1) (by omega)
    rw [loF_s]
    by_cases q : wFit W c = true ∧ coLand (wC W c) x y = b
    · rw [if_pos q]
      exact ⟨fun z => absurd z (nI_nm1 (by omega)), fun z => absurd q.2 (z c (Nat.le_refl _) (by omega) q.1)⟩
    · rw [if_neg q, ih]
      constructor
      · intro z j h1 h2 h3 h4
        by_cases e : j = c
        · subst e; exact q ⟨h3, h4⟩
        · exact z j (by omega) (by omega) h3 h4
      · intro z j h1 h2
        exact z j (by omega) (by omega)
def slP (W : aW) (b : Bool) (x y : Nat) : Prop := ∀ c, c < wn W → wFit W c = true → coLand (wC W c) x y = b
theorem loV_m1 {W : aW} {x y : Nat} {b : Bool} (hn : wn W ≤ 8) : loV W x y b = -1 ↔ slP W (!b) x y := by
  unfold loV slP
  rw [loF_m1 _ _ (by omega)]
  constructor
  · intro z c hc hf
    have := z c (by omega) (by omega) hf
    cases hq : coLand (wC W c) x y <;> cases b <;> simp_all
  · intro z c _ hc hf
    have := z c (by omega) hf
    rw [this]
    cases b <;> decide
def aFi : Nat → Nat → Prop := fun a k => aFo a k ∨ (a = 47 ∧ k = 51)
theorem aFi_d : ∀ a k, dM a k → ¬ aFi a k := fun a k z1 z2 => by unfold dM at z1; unfold aFi aFo at z2; omega
noncomputable def surA (W : aW) (x y w : Nat) : Int32 := if w = 0 then (if ¬ loV W x y false = -1 then (if ¬ loV W x y true = -1 then 2 else 1) else 0) else if w = 1 then loV W x y true else loV W x y false
section
variable {G : mG} {d : Nat} {b : Nat × Nat} {h : mH} {Q : Option mV → mH → Prop}
theorem m_laysFitting {W : aW} (hS : mSk h) (hW : mWo h W) (K : ∀ h', mFr2 aFi h h' → isFi (mI h' 47 51) W → Q none h') : mC G kX12_laysFitting (d + 7) b [.inr (some 47)] h Q := by
  have hn8 := hW.1.2.1
  refine qX12_laysFitting hS (fun h0 e0 => ?_)
  have f0 : mFr2 aFi h h0 := by rw [e0]; exact mFr2.SI (Or.inr ⟨rfl, rfl⟩)
  refine mloop (W := fun c h1 => mW G kX12_laysFitting (d + 7) b 7 [some (.inr (some 47)), some (.inl (nI c))] [] h1 Q)
    (P := fun c h1 => mFr2 aFi h h1 ∧ ∀ i, i < 32 → bt (mI h1 47 51) i = (decide (i < c) && wFit W i)) (wn W) ?_ ?_ 0 h0 (by omega) ⟨f0, fun i hi => ?_⟩
  · rintro c h1 hc ⟨f1, c1⟩ ih
    have hS1 := f1.1.sk hS
    have hW1 := mWo.fr f1 aFi_d hW
    refine qX12_laysFitting_7 _ hS1 ⟨fun z => absurd z (by rw [hW1.1.1]; exact nI_ge hc (by omega)), fun _ => m_isFitting hS1 hW1 hc (fun h2 f2 _ => ⟨_, rfl, f2.1.sk hS1, fun z => ?_, fun z h3 e3 => ?_⟩)⟩
    · rw [nI_1]
      refine ih h2 ⟨f1.tr (f2.wk (fun x k q => Or.inl q)), fun i hi => ?_⟩
      rw [f2.2 _ _ (fun q => by unfold aFo at q; omega), c1 i hi]
      by_cases e : i = c
      · subst e; rw [b2i_0.mp z]; simp
      · rw [show decide (i < c + 1) = decide (i < c) by rw [decide_eq_decide]; omega]
    · have hf : wFit W c = true := by
        cases hb : wFit W c with
        | true => rfl
        | false => exact absurd (b2i_0.mpr hb) z
      rw [nI_1]
      refine ih h3 ⟨(f1.tr (f2.wk (fun x k q => Or.inl q))).tr (by rw [e3]; exact mFr2.SI (Or.inr ⟨rfl, rfl⟩)), fun i hi => ?_⟩
      rw [e3, mI_SI_s, bt_setb _ (by omega) hi, f2.2 _ _ (fun q => by unfold aFo at q; omega), c1 i hi]
      by_cases e : i = c
      · subst e; rw [hf]; simp
      · rw [decide_eq_false e, Bool.or_false, show decide (i < c + 1) = decide (i < c) by rw [decide_eq_decide]; omega]
  · rintro h1 ⟨f1, c1⟩
    have hW1 := mWo.fr f1 aFi_d hW
    exact qX12_laysFitting_7 _ (f1.1.sk hS) ⟨fun _ => K h1 f1 c1, fun z => absurd (by rw [hW1.1.1]; exact nI_le (by omega) (by omega)) z⟩
  · rw [e0, mI_SI_s, bt_0]; simp
theorem m_lowest {W : aW} {k : Nat} (v2 : Int32) {l : Bool} (e2 : v2 = b2i l) (hS : mSk h) (hC : mCh h (wn W) (wC W)) (hF : isFi (mI h 47 51) W) (hk : k < 1024) (K : Q (some (.inl (loV W (k % 32) (k / 32) l))) h) : mC G kX12_lowest d b [.inr (some 47), .inl (nI k), .inl v2] h Q := by
  have hn8 := hC.2.1
  subst e2
  refine qX12_lowest _ _ hS ?_
  have lp : ∀ (r c : Nat), c + r = wn W → Q (some (.inl (loF W (k % 32) (k / 32) l r c))) h → mW G kX12_lowest d b 2 [some (.inr (some 47)), some (.inl (nI k)), some (.inl (b2i l)), some (.inl (nI c))] [] h Q := by
    intro r
    induction r with
    | zero =>
      intro c hc K
      exact qX12_lowest_2 _ _ _ hS ⟨fun _ => K, fun z => absurd (by rw [hC.1]; exact nI_le (by omega) (by omega)) z⟩
    | succ r ih =>
      intro c hc K
      rw [loF_s] at K
      have hf := hF c (by omega)
      rw [decide_eq_true (show c < wn W by omega), Bool.true_and] at hf
      refine qX12_lowest_2 _ _ _ hS ⟨fun z => absurd z (by rw [hC.1]; exact nI_ge (by omega) (by omega)), fun _ => ?_⟩
      rw [askS _ (show c < 32 by omega), hf, b2i_1, L1024, pk_mul, nI_add, nI_clamp (show 1024 * c + k < 2 ^ 31 by omega), (hC.2.2 c (by omega)).2.2 k hk, nI_1]
      have hb : b2i (coLand (wC W c) (k % 32) (k / 32)) = b2i l ↔ coLand (wC W c) (k % 32) (k / 32) = l := by
        cases coLand (wC W c) (k % 32) (k / 32) <;> cases l <;> decide
      rw [hb]
      refine ⟨fun z => ih (c + 1) (by omega) ?_, fun z => ⟨vp_in_nI (by omega) (by omega), fun z2 => ih (c + 1) (by omega) ?_, fun z2 => ?_⟩⟩
      · rw [if_neg (fun t => z t.1)] at K; exact K
      · rw [if_neg (fun t => z2 t.2)] at K; exact K
      · rw [if_pos ⟨z, z2⟩] at K; exact K
  exact lp (wn W) 0 (by omega) K
theorem m_sure (v1 v2 v3 : Int32) {W : aW} (hS : mSk h) (hW : mWo h W) (K1 : ¬ (¬ f_X11_inGrid v1 v2 = 0 ∧ ¬ f_X11_within v3 0 2 = 0) → Q (some (.inl (-3))) h)
    (K2 : ∀ x y w, x < 32 → y < 32 → w ≤ 2 → v1 = nI x → v2 = nI y → v3 = nI w → ∀ h', mFr2 aFi h h' → (noFit W → Q (some (.inl (-2))) h') ∧ (¬ noFit W → Q (some (.inl (surA W x y w))) h')) : mC G kX12_sure (d + 8) b [.inr (some 47), .inl v1, .inl v2, .inl v3] h Q := by
  have hn8 := hW.1.2.1
  refine qX12_sure _ _ _ hS ?_
  rw [f_cell_eq, f_in_eq]
  refine ⟨fun z => K1 (fun u => u.1 z), fun g => ⟨fun i => ?_, fun z => K1 (fun u => u.2 z)⟩⟩
  obtain ⟨x, y, hx, hy, ex, ey⟩ := grid_ex g
  obtain ⟨w, hw, ew⟩ := wi_ex (m := 2) (by omega) i
  have K := K2 x y w hx hy hw ex ey ew
  rw [ex, ey, ew, L32, pk_mul, nI_add]
  refine m_laysFitting hS hW (fun h1 f1 F1 => ⟨rfl, f1.1.sk hS, fun z => ?_, fun z => (K h1 f1).1 ((isFi_0 hn8 F1).mp z)⟩)
  have hS1 := f1.1.sk hS
  have hW1 := mWo.fr f1 aFi_d hW
  have K4 := (K h1 f1).2 (fun q => z ((isFi_0 hn8 F1).mpr q))
  refine m_lowest 1 (l := true) rfl hS1 hW1.1 F1 (by omega) ⟨_, rfl, hS1, m_lowest 0 (l := false) rfl hS1 hW1.1 F1 (by omega) ⟨_, rfl, hS1, ?_⟩⟩
  rw [show (32 * y + x) % 32 = x by omega, show (32 * y + x) / 32 = y by omega]
  unfold surA at K4
  have w0 : nI w ≤ 0 ↔ w = 0 := by rw [show (0 : Int32) = nI 0 from rfl, nI_leI (by omega) (by omega)]; omega
  have w1 : nI w = 1 ↔ w = 1 := nI_eq (b := 1) (by omega) (by omega)
  rw [w0]
  refine ⟨fun q w6 e6 => ?_, fun q w6 e6 => ?_⟩
  · rw [if_pos q] at K4; rw [e6]; exact K4
  · rw [if_neg q] at K4; rw [e6]
    by_cases q1 : w = 1
    · rw [if_pos q1] at K4; rw [if_neg (fun t => t (w1.mpr q1))]; exact K4
    · rw [if_neg q1] at K4; rw [if_pos (fun t => q1 (w1.mp t))]; exact K4
end
