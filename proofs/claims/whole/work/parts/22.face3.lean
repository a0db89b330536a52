/-! facing: the model's -/
def soT (C : aCo) (q x y : Nat) : Int32 := if fcS C q (rm4 q x y) x y = 0 then -2 else nI (fcO C q (rm4 q x y) x y)
/-- facing's answer at a coast and good numbers -/
def faC (C : aCo) (q x y w : Nat) : Int32 := if coLand C x y then -3 else if w = 0 then nI (fcS C q (rm4 q x y) x y) else if w = 1 then soT C q x y else nI (ecC C q x y)
theorem nI_ne2 {n : Nat} (hn : n < 1000) : nI n ≠ (-2 : Int32) := by
  intro e
  have := congrArg Int32.toInt e
  rw [nI_toI (by omega)] at this
  have e2 : (-2 : Int32).toInt = -2 := by decide
  omega
section
variable {G : mG} {d : Nat} {b : Nat × Nat} {h : mH} {Q : Option mV → mH → Prop}
theorem m_sortTo {c q x y : Nat} {C : aCo} (hS : mSk h) (hc : c < 8) (hq : q < 4) (hx : x < 32) (hy : y < 32) (hC : mCoM h c C) (ok : okRing C) (hL : mLa h c C) (hw : coLand C x y = false) (K : Q (some (.inl (soT C q x y))) h) : mC G kX12_sortTo (d + 2) b [.inr (some 47), .inl (nI c), .inl (nI x), .inl (nI y), .inl (nI q)] h Q := by
  refine qX12_sortTo _ _ _ _ hS ?_
  refine m_stepsTo hS hc hq hx hy hL ⟨_, rfl, hS, fun z => ?_, fun z => ?_⟩
  · have hle := fcS_le C q (rm4 q x y) x y
    have hr31 : rm4 q x y ≤ 31 := by unfold rm4; split <;> first | omega | (split <;> first | omega | (split <;> omega))
    have hz : fcS C q (rm4 q x y) x y ≠ 0 := fun e => z (by rw [e]; rfl)
    obtain ⟨u, v, a1, a2, a3, a4, a5, a6, a7, a8⟩ := fcS_at hq (rm4 q x y) x y _ rfl hx hy hw rfl (by omega)
    obtain ⟨e1, e2⟩ := f_st q hq
    obtain ⟨f1, f2, f3, f4, f5⟩ := rm4_fw hq a1 a2 a3
    have p1 : nI x + nI (fcS C q (rm4 q x y) x y) * f_X12_stepX (nI q) = nI (fwX q u) := by
      rw [e1, ii_nat x, ii_nat (fcS C q (rm4 q x y) x y), ii_mul, ii_add, ii_nat, f4, a4, Int.sub_mul]
      congr 1; omega
    have p2 : nI y + nI (fcS C q (rm4 q x y) x y) * f_X12_stepY (nI q) = nI (fwY q v) := by
      rw [e2, ii_nat y, ii_nat (fcS C q (rm4 q x y) x y), ii_mul, ii_add, ii_nat, f5, a5, Int.sub_mul]
      congr 1; omega
    rw [p1, p2]
    refine m_sortAt hS hc hq a1 a2 a3 hC ok ⟨_, rfl, hS, ?_⟩
    obtain ⟨s, hs⟩ := soF_ex ok hq a3 a6 a7
    unfold soT at K
    rw [if_neg hz, a8] at K
    unfold soB at K
    rw [hs] at K ⊢
    exact K
  · have hle := fcS_le C q (rm4 q x y) x y
    have hr31 : rm4 q x y ≤ 31 := by unfold rm4; split <;> first | omega | (split <;> first | omega | (split <;> omega))
    have hz : fcS C q (rm4 q x y) x y = 0 := by
      have z' : nI (fcS C q (rm4 q x y) x y) = nI 0 := z
      rw [nI_eq (by omega) (by omega)] at z'; exact z'
    unfold soT at K
    rw [if_pos hz] at K; exact K
theorem m_echoOf {c q x y : Nat} {C : aCo} (hS : mSk h) (hc : c < 8) (hq : q < 4) (hx : x < 32) (hy : y < 32) (hC : mCoM h c C) (ok : okRing C) (hL : mLa h c C) (hw : coLand C x y = false) (K : Q (some (.inl (nI (ecC C q x y)))) h) : mC G kX12_echoOf (d + 3) b [.inr (some 47), .inl (nI c), .inl (nI x), .inl (nI y), .inl (nI q)] h Q := by
  refine qX12_echoOf _ _ _ _ hS ?_
  have hle := fcO_le ok (q := q) (rm4 q x y) x y
  unfold ecC at K
  refine m_sortTo hS hc hq hx hy hC ok hL hw ⟨_, rfl, hS, fun z => ?_, fun z => ⟨fun z2 => ?_, fun z2 => ?_⟩⟩
  · unfold soT at z
    by_cases hz : fcS C q (rm4 q x y) x y = 0
    · rw [if_pos hz] at K; exact K
    · rw [if_neg hz] at z; exact absurd z (nI_ne2 (by omega))
  · unfold soT at z z2
    by_cases hz : fcS C q (rm4 q x y) x y = 0
    · rw [if_pos hz] at z; exact absurd rfl z
    · rw [if_neg hz] at z2 K
      refine m_stepsTo hS hc hq hx hy hL ⟨_, rfl, hS, ?_⟩
      rw [if_neg (fun e => z2 (by rw [e]; rfl))] at K
      rw [L2, pk_mul]; exact K
  · unfold soT at z z2
    by_cases hz : fcS C q (rm4 q x y) x y = 0
    · rw [if_pos hz] at z2; exact absurd z2 (by decide)
    · rw [if_neg hz] at z2 K
      have z2' : nI (fcO C q (rm4 q x y) x y) = nI 1 := z2
      rw [nI_eq (by omega) (by omega)] at z2'
      rw [if_pos z2'] at K; exact K
theorem m_mayBeNone {c q x y : Nat} {C : aCo} (hS : mSk h) (hc : c < 8) (hq : q < 4) (hx : x < 32) (hy : y < 32) (hC : mCoM h c C) (ok : okRing C) (hL : mLa h c C) (hw : coLand C x y = false) (K : Q (some (.inl (b2i (siC C q x y)))) h) : mC G kX12_mayBeNone (d + 3) b [.inr (some 47), .inl (nI c), .inl (nI x), .inl (nI y), .inl (nI q)] h Q := by
  refine qX12_mayBeNone _ _ _ _ hS ?_
  have hle := fcO_le ok (q := q) (rm4 q x y) x y
  unfold siC at K
  refine m_sortTo hS hc hq hx hy hC ok hL hw ⟨_, rfl, hS, fun w3 e3 => ?_⟩
  rw [e3]
  unfold soT
  by_cases hz : fcS C q (rm4 q x y) x y = 0
  · rw [if_pos hz, if_neg (by decide)]
    rw [decide_eq_true hz] at K; exact K
  · rw [if_neg hz]
    rw [decide_eq_false hz] at K
    by_cases hz2 : fcO C q (rm4 q x y) x y = 0
    · rw [decide_eq_true hz2] at K
      rw [hz2]; exact K
    · rw [decide_eq_false hz2] at K
      rw [if_neg (fun e => hz2 ?_)]
      · exact K
      · have e' : nI (fcO C q (rm4 q x y) x y) = nI 0 := e
        rw [nI_eq (by omega) (by omega)] at e'; exact e'
end
