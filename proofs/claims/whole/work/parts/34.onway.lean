/-! land on the way: the model's walk -/
def dst (a b : Nat) : Nat := (a - b) + (b - a)
def twd (a t : Nat) : Nat := if t ≤ a then a - 1 else a + 1
theorem cnt_split {p : Nat → Bool} {u : Nat} : ∀ n, u < n → cnt p n = cnt (fun i => p i && !decide (i = u)) n + (if p u then 1 else 0)
  | 0, h => by omega
  | n + 1, h => by
    by_cases e : n = u
    · subst e
      have hc : cnt (fun i => p i && !decide (i = n)) n = cnt p n := cnt_cong n (fun i hi => by
        have : ¬ i = n := by omega
        simp [this])
      rw [cnt, cnt, hc]
      simp
    · rw [cnt, cnt, cnt_split (u := u) n (by omega)]
      simp only [e, decide_false, Bool.not_false, Bool.and_true]
      omega
theorem cnt_0 {p : Nat → Bool} : ∀ n, (∀ i, i < n → p i = false) → cnt p n = 0
  | 0, _ => rfl
  | n + 1, h => by rw [cnt, cnt_0 n (fun i hi => h i (by omega)), h n (by omega)]; rfl
/-- how many of p lie from u to t -/
def sgC (p : Nat → Bool) (u t : Nat) : Nat := cnt (fun i => p i && decide (min u t ≤ i ∧ i ≤ max u t)) 32
theorem sgC_step {p : Nat → Bool} {u t : Nat} (hu : u < 32) (hne : u ≠ t) : sgC p u t = sgC p (twd u t) t + (if p u then 1 else 0) := by
  unfold sgC
  rw [cnt_split (u := u) 32 hu]
  have h1 : (decide (min u t ≤ u ∧ u ≤ max u t)) = true := by simp; omega
  rw [h1, Bool.and_true]
  congr 1
  refine cnt_cong 32 (fun i hi => ?_)
  cases p i with
  | false => rfl
  | true =>
    unfold twd
    by_cases h : t ≤ u
    · rw [if_pos h]
      simp only [Bool.true_and]
      rw [Bool.eq_iff_iff]
      simp
      omega
    · rw [if_neg h]
      simp only [Bool.true_and]
      rw [Bool.eq_iff_iff]
      simp
      omega
theorem sgC_one {p : Nat → Bool} {t : Nat} (ht : t < 32) : sgC p t t = if p t then 1 else 0 := by
  unfold sgC
  rw [cnt_split (u := t) 32 ht, cnt_0 32 (fun i hi => ?_)]
  · simp
  · by_cases h : i = t
    · simp [h]
    · have : ¬ (min t t ≤ i ∧ i ≤ max t t) := by omega
      rw [decide_eq_false this, Bool.and_false, Bool.false_and]
def wyX (C : aCo) (x y tx ty i : Nat) : Bool := coLand C i y && !decide (i = x) && !(decide (y = ty) && decide (i = tx))
def wyY (C : aCo) (y tx ty i : Nat) : Bool := coLand C tx i && !decide (i = y) && !decide (i = ty)
def wyR (C : aCo) (x y tx ty u v : Nat) : Nat := (if v = y then sgC (wyX C x y tx ty) u tx else 0) + sgC (wyY C y tx ty) v ty
theorem wyR_all (C : aCo) (x y tx ty : Nat) : wyR C x y tx ty x y = lbC C x y tx ty := by
  unfold wyR lbC
  rw [if_pos rfl]
  congr 1
  · refine cnt_cong 32 (fun i _ => ?_)
    unfold wyX lbX
    cases coLand C i y <;> cases decide (i = x) <;> cases (decide (y = ty) && decide (i = tx)) <;> simp
  · refine cnt_cong 32 (fun i _ => ?_)
    unfold wyY lbY
    cases coLand C tx i <;> cases decide (i = y) <;> cases decide (i = ty) <;> simp
def wyH (C : aCo) (x y u v : Nat) : Nat := if (u ≠ x ∨ v ≠ y) ∧ coLand C u v = true then 1 else 0
theorem wyR_X {C : aCo} {x y tx ty u : Nat} (hu : u < 32) (hne : u ≠ tx) : wyR C x y tx ty u y = wyH C x y u y + wyR C x y tx ty (twd u tx) y := by
  unfold wyR
  rw [if_pos rfl, if_pos rfl, sgC_step hu hne]
  have : (if wyX C x y tx ty u then 1 else 0) = wyH C x y u y := by
    unfold wyX wyH
    by_cases h1 : u = x <;> cases coLand C u y <;> simp [h1, hne]
  rw [this]; omega
theorem wyR_Y {C : aCo} {x y tx ty v : Nat} (htx : tx < 32) (hv : v < 32) (hne : v ≠ ty) (hb : min y ty ≤ v ∧ v ≤ max y ty) : wyR C x y tx ty tx v = wyH C x y tx v + wyR C x y tx ty tx (twd v ty) := by
  have hn : twd v ty ≠ y := by unfold twd; split <;> omega
  unfold wyR
  rw [if_neg hn, sgC_step hv hne]
  by_cases h : v = y
  · rw [if_pos h, sgC_one htx]
    have e1 : (if wyY C y tx ty v then 1 else 0) = 0 := by unfold wyY; simp [h]
    have e2 : (if wyX C x y tx ty tx then 1 else 0) = wyH C x y tx v := by
      unfold wyX wyH
      have : ¬ y = ty := by omega
      rw [h]
      by_cases h1 : tx = x <;> cases coLand C tx y <;> simp [h1, this]
    rw [e1, e2]; omega
  · rw [if_neg h]
    have e1 : (if wyY C y tx ty v then 1 else 0) = wyH C x y tx v := by
      unfold wyY wyH
      cases coLand C tx v <;> simp [h, hne]
    rw [e1]; omega
theorem wyR_end {C : aCo} {x y tx ty : Nat} (htx : tx < 32) (hty : ty < 32) : wyR C x y tx ty tx ty = 0 := by
  unfold wyR
  rw [sgC_one hty, sgC_one htx]
  have e1 : wyY C y tx ty ty = false := by unfold wyY; simp
  rw [e1]
  by_cases h : ty = y
  · have e2 : wyX C x y tx ty tx = false := by unfold wyX; simp [h]
    rw [e2]; simp
  · rw [if_neg h]; rfl
theorem twd_n {a t : Nat} (ha : a < 1000) (ht : t < 1000) (hne : a ≠ t) : (if nI t ≤ nI a then (nI a - 1) else (nI a + 1)) = nI (twd a t) := by
  unfold twd
  by_cases h : t ≤ a
  · rw [if_pos ((nI_leI (by omega) (by omega)).mpr h), if_pos h]
    obtain ⟨m, rfl⟩ : ∃ m, a = m + 1 := ⟨a - 1, by omega⟩
    exact nI_pred m
  · rw [if_neg (fun z => h ((nI_leI (by omega) (by omega)).mp z)), if_neg h, nI_1]
section
variable {G : mG} {d : Nat} {b : Nat × Nat} {h : mH} {Q : Option mV → mH → Prop}
set_option maxHeartbeats 1000000 in
theorem m_walk {c x y tx ty : Nat} {C : aCo} (hS : mSk h) (hc : c < 8) (hx : x < 32) (hy : y < 32) (htx : tx < 32) (hty : ty < 32) (hL : mLa h c C) : ∀ (r u v k : Nat), dst u tx + dst v ty = r → u < 32 → v < 32 → (u ≠ tx → v = y) → (min y ty ≤ v ∧ v ≤ max y ty) →
    Q (some (.inl (nI (k + wyR C x y tx ty u v)))) h → mW G kX12_landOnWay (d + 1) b 9 [some (.inr (some 47)), some (.inl (nI c)), some (.inl (nI x)), some (.inl (nI y)), some (.inl (nI tx)), some (.inl (nI ty)), some (.inl (nI k)), some (.inl (nI u)), some (.inl (nI v))] [] h Q := by
  intro r
  induction r with
  | zero =>
    intro u v k hr hu hv _ _ K
    have e1 : u = tx := by unfold dst at hr; omega
    have e2 : v = ty := by unfold dst at hr; omega
    subst e1; subst e2
    rw [wyR_end hu hv] at K
    exact qX12_landOnWay_9 _ _ _ _ _ _ _ _ hS ⟨fun z => absurd rfl z, fun _ => ⟨fun _ => K, fun z => absurd rfl z⟩⟩
  | succ r ih =>
    intro u v k hr hu hv huv hbt K
    have eu : nI u = nI tx ↔ u = tx := nI_eq (by omega) (by omega)
    have ex : nI u = nI x ↔ u = x := nI_eq (by omega) (by omega)
    have ey : nI v = nI y ↔ v = y := nI_eq (by omega) (by omega)
    have et : nI v = nI ty ↔ v = ty := nI_eq (by omega) (by omega)
    have LX : ∀ k1 w, ¬ nI u = nI tx → k1 = nI (k + wyH C x y u v) → w = (if nI tx ≤ nI u then (nI u - 1) else (nI u + 1)) → mW G kX12_landOnWay (d + 1) b 9 [some (.inr (some 47)), some (.inl (nI c)), some (.inl (nI x)), some (.inl (nI y)), some (.inl (nI tx)), some (.inl (nI ty)), some (.inl k1), some (.inl w), some (.inl (nI v))] [] h Q := by
      intro k1 w hn e1 e2
      have hn2 : u ≠ tx := fun z => hn (eu.mpr z)
      have hvy := huv hn2
      rw [twd_n (by omega) (by omega) hn2] at e2
      rw [e1, e2]
      refine ih _ _ _ ?_ ?_ hv (fun _ => hvy) hbt ?_
      · unfold dst twd at *; split <;> omega
      · unfold twd; split <;> omega
      · rw [hvy, wyR_X hu hn2] at K
        rw [hvy, Nat.add_assoc]; exact K
    have LY : ∀ k1 w, nI u = nI tx → k1 = nI (k + wyH C x y u v) → w = (if nI ty ≤ nI v then (nI v - 1) else (nI v + 1)) → mW G kX12_landOnWay (d + 1) b 9 [some (.inr (some 47)), some (.inl (nI c)), some (.inl (nI x)), some (.inl (nI y)), some (.inl (nI tx)), some (.inl (nI ty)), some (.inl k1), some (.inl (nI u)), some (.inl w)] [] h Q := by
      intro k1 w hn e1 e2
      have hn2 : u = tx := eu.mp hn
      have hvt : v ≠ ty := fun z => by unfold dst at hr; omega
      rw [twd_n (by omega) (by omega) hvt] at e2
      rw [e1, e2]
      refine ih _ _ _ ?_ hu ?_ (fun z => absurd hn2 z) ?_ ?_
      · unfold dst twd at *; split <;> omega
      · unfold twd; split <;> omega
      · unfold twd; split <;> omega
      · rw [hn2, wyR_Y htx hv hvt hbt] at K
        rw [hn2, Nat.add_assoc]; exact K
    have k0 : ∀ (_ : nI u = nI x) (_ : nI v = nI y), nI k = nI (k + wyH C x y u v) := by
      intro g1 g2
      have : wyH C x y u v = 0 := by unfold wyH; simp [ex.mp g1, ey.mp g2]
      rw [this]; rfl
    have k1 : ∀ (_ : b2i (coLand C u v) = 0), nI k = nI (k + wyH C x y u v) := by
      intro g1
      have : wyH C x y u v = 0 := by unfold wyH; rw [b2i_0.mp g1]; simp
      rw [this]; rfl
    have k2 : ∀ (_ : ¬ nI u = nI x ∨ ¬ nI v = nI y) (_ : ¬ b2i (coLand C u v) = 0), nI k + 1 = nI (k + wyH C x y u v) := by
      intro g1 g2
      have hb : coLand C u v = true := by cases hh : coLand C u v with
        | true => rfl
        | false => exact absurd (b2i_0.mpr hh) g2
      have : wyH C x y u v = 1 := by unfold wyH; rw [ex, ey] at g1; rw [if_pos ⟨g1, hb⟩]
      rw [this, nI_1]
    have HA : ∀ (_ : ¬ nI u = nI x ∨ ¬ nI v = nI y), mC G kX12_isLandAt d (0, 0) [.inr (some 47), .inl (nI c), .inl (nI u), .inl (nI v)] h (fun r h1 => ∃ x2, r = some (.inl x2) ∧ mSk h1 ∧ ((x2 = 0 → ((nI u = nI tx → ∀ w3 : Int32, w3 = (if nI ty ≤ nI v then (nI v - 1) else (nI v + 1)) → mW G kX12_landOnWay (d + 1) b 9 [some (.inr (some 47)), some (.inl (nI c)), some (.inl (nI x)), some (.inl (nI y)), some (.inl (nI tx)), some (.inl (nI ty)), some (.inl (nI k)), some (.inl (nI u)), some (.inl w3)] [] h1 Q) ∧ (¬ nI u = nI tx → ∀ w6 : Int32, w6 = (if nI tx ≤ nI u then (nI u - 1) else (nI u + 1)) → mW G kX12_landOnWay (d + 1) b 9 [some (.inr (some 47)), some (.inl (nI c)), some (.inl (nI x)), some (.inl (nI y)), some (.inl (nI tx)), some (.inl (nI ty)), some (.inl (nI k)), some (.inl w6), some (.inl (nI v))] [] h1 Q))) ∧ (¬ x2 = 0 → ((nI u = nI tx → ∀ w10 : Int32, w10 = (if nI ty ≤ nI v then (nI v - 1) else (nI v + 1)) → mW G kX12_landOnWay (d + 1) b 9 [some (.inr (some 47)), some (.inl (nI c)), some (.inl (nI x)), some (.inl (nI y)), some (.inl (nI tx)), some (.inl (nI ty)), some (.inl (nI k + 1)), some (.inl (nI u)), some (.inl w10)] [] h1 Q) ∧ (¬ nI u = nI tx → ∀ w13 : Int32, w13 = (if nI tx ≤ nI u then (nI u - 1) else (nI u + 1)) → mW G kX12_landOnWay (d + 1) b 9 [some (.inr (some 47)), some (.inl (nI c)), some (.inl (nI x)), some (.inl (nI y)), some (.inl (nI tx)), some (.inl (nI ty)), some (.inl (nI k + 1)), some (.inl w13), some (.inl (nI v))] [] h1 Q))))) := fun g =>
      m_isLandAt hS hc hu hv hL ⟨_, rfl, hS, fun z => ⟨fun g2 w e => LY _ w g2 (k1 z) e, fun g2 w e => LX _ w g2 (k1 z) e⟩, fun z => ⟨fun g2 w e => LY _ w g2 (k2 g z) e, fun g2 w e => LX _ w g2 (k2 g z) e⟩⟩
    refine qX12_landOnWay_9 _ _ _ _ _ _ _ _ hS ⟨fun a1 => ⟨fun a2 => HA (Or.inl a2), fun a2 => ⟨fun a3 => ⟨fun g2 w e => LY _ w g2 (k0 a2 a3) e, fun g2 w e => LX _ w g2 (k0 a2 a3) e⟩, fun a3 => HA (Or.inr a3)⟩⟩, fun a1 => ⟨fun a2 => ?_, fun _ => ⟨fun a2 => HA (Or.inl a2), fun a2 => ⟨fun a3 => ⟨fun g2 w e => LY _ w g2 (k0 a2 a3) e, fun g2 w e => LX _ w g2 (k0 a2 a3) e⟩, fun a3 => HA (Or.inr a3)⟩⟩⟩⟩
    have := eu.mp a1
    have := et.mp a2
    unfold dst at hr
    omega
theorem m_landOnWay {c x y tx ty : Nat} {C : aCo} (hS : mSk h) (hc : c < 8) (hx : x < 32) (hy : y < 32) (htx : tx < 32) (hty : ty < 32) (hL : mLa h c C) (K : Q (some (.inl (nI (lbC C x y tx ty)))) h) : mC G kX12_landOnWay (d + 1) b [.inr (some 47), .inl (nI c), .inl (nI x), .inl (nI y), .inl (nI tx), .inl (nI ty)] h Q := by
  refine qX12_landOnWay _ _ _ _ _ hS ?_
  refine m_walk hS hc hx hy htx hty hL _ x y 0 rfl hx hy (fun _ => rfl) (by omega) ?_
  rw [Nat.zero_add, wyR_all]
  exact K
end
