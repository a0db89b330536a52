/-! land between two cells: the class's count -/
theorem cnt_cong {p q : Nat → Bool} : ∀ n, (∀ i, i < n → p i = q i) → cnt p n = cnt q n
  | 0, _ => rfl
  | n + 1, h => by rw [cnt, cnt, cnt_cong n (fun i hi => h i (by omega)), h n (by omega)]
def lbX (C : aCo) (x y tx ty i : Nat) : Bool := coLand C i y && (decide (min x tx ≤ i ∧ i ≤ max x tx) && !decide (i = x) && !(decide (y = ty) && decide (i = tx)))
def lbY (C : aCo) (y tx ty i : Nat) : Bool := coLand C tx i && (decide (min y ty ≤ i ∧ i ≤ max y ty) && !decide (i = y) && !decide (i = ty))
def lbC (C : aCo) (x y tx ty : Nat) : Nat := cnt (lbX C x y tx ty) 32 + cnt (lbY C y tx ty) 32
section
variable {G : mG} {d : Nat} {b : Nat × Nat} {h : mH} {Q : Option mV → mH → Prop}
theorem c1_landBetween {a x y tx ty : Nat} {C : aCo} (hS : mSk h) (ta : mT h a = 2) (hL : cLa h a C) (hx : x < 32) (hy : y < 32) (htx : tx < 32) (hty : ty < 32) (K : Q (some (.inl (nI (lbC C x y tx ty)))) h) : mC G kX1_landBetween (d + 1) b [.inr (some a), .inl (nI x), .inl (nI y), .inl (nI tx), .inl (nI ty)] h Q := by
  have vy : vp_in (nI y) 32 := vp_in_nI hy (by omega)
  have vt : vp_in (nI tx) 32 := vp_in_nI htx (by omega)
  have eY : cnt (bt (mI h (a + 2) tx &&& (f_X11_span (nI y) (nI ty) &&& m_not (m_shl 1 (nI y)) &&& m_not (m_shl 1 (nI ty))))) 32 = cnt (lbY C y tx ty) 32 := cnt_cong 32 (fun i hi => by
    rw [bt_and, bt_without hty hi, bt_without hy hi, bt_span hy hty hi, (hL tx i htx hi).2]; rfl)
  unfold lbC at K
  refine qX1_landBetween a _ _ _ _ ta hS ⟨fun z => ⟨vy, vt, ?_⟩, fun z => ⟨vy, vt, ?_⟩⟩
  · have hne : y ≠ ty := fun e => z (by rw [e])
    have eX : cnt (bt (mI h (a + 1) y &&& (f_X11_span (nI x) (nI tx) &&& m_not (m_shl 1 (nI x))))) 32 = cnt (lbX C x y tx ty) 32 := cnt_cong 32 (fun i hi => by
      rw [bt_and, bt_without hx hi, bt_span hx htx hi, (hL i y hi hy).1]
      unfold lbX
      rw [decide_eq_false hne, Bool.false_and, Bool.not_false, Bool.and_true])
    rw [nI_clamp (by omega), nI_clamp (by omega), bitCount_eq, bitCount_eq, eX, eY, nI_add]
    exact K
  · have he : y = ty := by rw [nI_eq (by omega) (by omega)] at z; exact z
    have eX : cnt (bt (mI h (a + 1) y &&& (f_X11_span (nI x) (nI tx) &&& m_not (m_shl 1 (nI x)) &&& m_not (m_shl 1 (nI tx))))) 32 = cnt (lbX C x y tx ty) 32 := cnt_cong 32 (fun i hi => by
      rw [bt_and, bt_without htx hi, bt_without hx hi, bt_span hx htx hi, (hL i y hi hy).1]
      unfold lbX
      rw [decide_eq_true he, Bool.true_and])
    rw [nI_clamp (by omega), nI_clamp (by omega), bitCount_eq, bitCount_eq, eX, eY, nI_add]
    exact K
end
