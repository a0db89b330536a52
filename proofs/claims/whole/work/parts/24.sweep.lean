/-! facing: the class's sweep -/
def vwC (C : aCo) (q x y : Nat) : Int32 := if coLand C x y then -1 else if fcS C q (rm4 q x y) x y = 0 then 0 else nI (4 * fcS C q (rm4 q x y) x y + fcO C q (rm4 q x y) x y)
def vwI (q x y : Nat) : Nat := q * 1024 + y * 32 + x
def lnX (q l k : Nat) : Nat := if q % 2 = 0 then l else if q < 2 then 31 - k else k
def lnY (q l k : Nat) : Nat := if q % 2 = 0 then (if q < 2 then 31 - k else k) else l
theorem ln_ok {q l k : Nat} (hq : q < 4) (hl : l < 32) (hk : k < 32) : lnX q l k < 32 ∧ lnY q l k < 32 ∧ rm4 q (lnX q l k) (lnY q l k) = k := by
  unfold lnX lnY rm4
  rcases (show q = 0 ∨ q = 1 ∨ q = 2 ∨ q = 3 by omega) with rfl | rfl | rfl | rfl <;> simp <;> omega
theorem ln_fw {q l k : Nat} (hq : q < 4) (hk : k + 1 < 32) : fwX q (lnX q l (k + 1)) = lnX q l k ∧ fwY q (lnY q l (k + 1)) = lnY q l k := by
  unfold lnX lnY fwX fwY
  rcases (show q = 0 ∨ q = 1 ∨ q = 2 ∨ q = 3 by omega) with rfl | rfl | rfl | rfl <;> simp <;> omega
theorem ln_ex {q x y : Nat} (hq : q < 4) (hx : x < 32) (hy : y < 32) : ∃ l k, l < 32 ∧ k < 32 ∧ lnX q l k = x ∧ lnY q l k = y ∧ l = (if q % 2 = 0 then x else y) := by
  unfold lnX lnY
  rcases (show q = 0 ∨ q = 1 ∨ q = 2 ∨ q = 3 by omega) with rfl | rfl | rfl | rfl
  · exact ⟨x, 31 - y, by omega, by omega, by simp, by simp; omega, by simp⟩
  · exact ⟨y, 31 - x, by omega, by omega, by simp; omega, by simp, by simp⟩
  · exact ⟨x, y, by omega, by omega, by simp, by simp, by simp⟩
  · exact ⟨y, x, by omega, by omega, by simp, by simp, by simp⟩
theorem ln_inj {q l k l' k' : Nat} (hq : q < 4) (hl : l < 32) (hk : k < 32) (hl' : l' < 32) (hk' : k' < 32) (e : vwI q (lnX q l k) (lnY q l k) = vwI q (lnX q l' k') (lnY q l' k')) : l = l' ∧ k = k' := by
  unfold vwI lnX lnY at e
  rcases (show q = 0 ∨ q = 1 ∨ q = 2 ∨ q = 3 by omega) with rfl | rfl | rfl | rfl <;> simp at e <;> omega
theorem rm4_31 {q x y : Nat} (hx : x < 32) (hy : y < 32) : rm4 q x y ≤ 31 := by unfold rm4; split <;> first | omega | (split <;> first | omega | (split <;> omega))
theorem vw_land {C : aCo} {q x y : Nat} (h : coLand C x y = true) : vwC C q x y = -1 := by unfold vwC; rw [h]; rfl
theorem vw_0 {C : aCo} {q x y : Nat} (h : coLand C x y = false) (hr : rm4 q x y = 0) : vwC C q x y = 0 := by unfold vwC; rw [h, hr]; rfl
theorem vw_n1 {C : aCo} {q x y r : Nat} (h : coLand C x y = false) (hr : rm4 q x y = r + 1) (ha : coLand C (fwX q x) (fwY q y) = true) : vwC C q x y = nI (4 + soB C q x y) := by
  unfold vwC
  rw [h, if_neg (by decide), hr, fcS, ha, if_pos rfl, if_neg (by decide), fcO, ha, if_pos rfl]
theorem vw_n2 {C : aCo} {q x y r : Nat} (h : coLand C x y = false) (hr : rm4 q x y = r + 1) (hr2 : rm4 q (fwX q x) (fwY q y) = r) (ha : coLand C (fwX q x) (fwY q y) = false) :
    vwC C q x y = if fcS C q r (fwX q x) (fwY q y) = 0 then 0 else vwC C q (fwX q x) (fwY q y) + 4 := by
  have e1 : fcS C q (r + 1) x y = if fcS C q r (fwX q x) (fwY q y) = 0 then 0 else fcS C q r (fwX q x) (fwY q y) + 1 := by rw [fcS, ha]; rfl
  have e2 : fcO C q (r + 1) x y = fcO C q r (fwX q x) (fwY q y) := by rw [fcO, ha]; rfl
  unfold vwC
  rw [h, hr, ha, hr2, e1, e2]
  by_cases h0 : fcS C q r (fwX q x) (fwY q y) = 0
  · simp [h0]
  · simp only [if_neg h0]
    rw [if_neg (by decide), if_neg (by omega), if_neg (by decide), show (4 : Int32) = nI 4 from rfl, nI_add]
    congr 1
    omega
theorem vw_w {C : aCo} (ok : okRing C) {q x y : Nat} (hx : x < 32) (hy : y < 32) (h : coLand C x y = false) : (fcS C q (rm4 q x y) x y = 0 ∧ vwC C q x y = 0) ∨ (fcS C q (rm4 q x y) x y ≠ 0 ∧ ∃ m, 4 ≤ m ∧ m < 1000 ∧ vwC C q x y = nI m) := by
  have h1 := fcS_le C q (rm4 q x y) x y
  have h2 := fcO_le ok (q := q) (rm4 q x y) x y
  have h3 := rm4_31 (q := q) hx hy
  unfold vwC
  rw [h, if_neg (by decide)]
  by_cases h0 : fcS C q (rm4 q x y) x y = 0
  · exact Or.inl ⟨h0, by rw [if_pos h0]⟩
  · exact Or.inr ⟨h0, 4 * fcS C q (rm4 q x y) x y + fcO C q (rm4 q x y) x y, by omega, by omega, by rw [if_neg h0]⟩
def aLane (a q l : Nat) : Nat → Nat → Prop := fun r k => r = a + 3 ∧ ∃ j, j < 32 ∧ k = vwI q (lnX q l j) (lnY q l j)
theorem mFr2.cla {A : Nat → Nat → Prop} {h h1 : mH} {a : Nat} {C : aCo} (f : mFr2 A h h1) (n1 : ∀ k, ¬ A (a + 1) k) (n2 : ∀ k, ¬ A (a + 2) k) (hL : cLa h a C) : cLa h1 a C := fun x y hx hy => by
  rw [f.2 _ _ (n1 y), f.2 _ _ (n2 x)]; exact hL x y hx hy
theorem mFr2.cox {A : Nat → Nat → Prop} {h h1 : mH} {a : Nat} {C : aCo} (f : mFr2 A h h1) (n0 : ¬ A a 1) (n6 : ∀ k, ¬ A (a + 6) k) (n7 : ∀ k, ¬ A (a + 7) k) (n8 : ∀ k, ¬ A (a + 8) k) (hC : mCoX h a C) : mCoX h1 a C := ⟨by rw [f.2 _ _ n0]; exact hC.1, fun i hi => by
  rw [f.2 _ _ (n6 i), f.2 _ _ (n7 i), f.2 _ _ (n8 i)]; exact hC.2 i hi⟩
section
variable {G : mG} {d : Nat} {b : Nat × Nat} {h : mH} {Q : Option mV → mH → Prop}
set_option maxHeartbeats 2000000 in
theorem c1_sweepLane {a q l : Nat} {C : aCo} (hS : mSk h) (ta : mT h a = 2) (hC : mCoX h a C) (ok : okRing C) (hL : cLa h a C) (hq : q < 4) (hl : l < 32)
    (K : ∀ h', mFr2 (aLane a q l) h h' → (∀ j, j < 32 → mI h' (a + 3) (vwI q (lnX q l j) (lnY q l j)) = vwC C q (lnX q l j) (lnY q l j)) → Q none h') : mC G kX1_sweepLane (d + 1) b [.inr (some a), .inl (nI q), .inl (nI l)] h Q := by
  refine qX1_sweepLane a _ _ ta hS (fun w1 e1 => ?_)
  rw [and1_n (by omega)] at e1
  have hw1 : w1 = b2i (decide (q % 2 = 0)) := by
    rw [e1]
    rcases (show q % 2 = 0 ∨ q % 2 = 1 by omega) with hp | hp <;> rw [hp] <;> rfl
  rw [hw1]
  refine mloop (W := fun i h1 => mW G kX1_sweepLane (d + 1) b 18 [some (.inr (some a)), some (.inl (nI q)), some (.inl (nI l)), some (.inl (b2i (decide (q % 2 = 0)))), some (.inl (if i = 0 then 0 else vwC C q (lnX q l (i - 1)) (lnY q l (i - 1)))), some (.inl (nI i)), none, none, none] [] h1 Q)
    (P := fun i h1 => mFr2 (aLane a q l) h h1 ∧ ∀ j, j < i → mI h1 (a + 3) (vwI q (lnX q l j) (lnY q l j)) = vwC C q (lnX q l j) (lnY q l j)) 32 ?_ ?_ 0 h (by omega) ⟨mFr2.rf, fun j hj => by omega⟩
  · rintro i h1 hi ⟨f1, c1⟩ ih
    have hS1 := f1.1.sk hS
    have ta1 : mT h1 a = 2 := by rw [f1.1.2.1]; exact ta
    have hL1 : cLa h1 a C := f1.cla (fun k z => by have := z.1; omega) (fun k z => by have := z.1; omega) hL
    have hC1 : mCoX h1 a C := f1.cox (fun z => by have := z.1; omega) (fun k z => by have := z.1; omega) (fun k z => by have := z.1; omega) (fun k z => by have := z.1; omega) hC
    obtain ⟨o1, o2, o3⟩ := ln_ok hq hl hi
    have wr : ∀ v, v = vwC C q (lnX q l i) (lnY q l i) → ∀ h2, h2 = mSI h1 (a + 3) (vwI q (lnX q l i) (lnY q l i)) v → mW G kX1_sweepLane (d + 1) b 18 [some (.inr (some a)), some (.inl (nI q)), some (.inl (nI l)), some (.inl (b2i (decide (q % 2 = 0)))), some (.inl v), some (.inl (nI (i + 1))), none, none, none] [] h2 Q := by
      rintro v ev h2 rfl
      have := ih (mSI h1 (a + 3) (vwI q (lnX q l i) (lnY q l i)) v) ⟨f1.tr (mFr2.SI ⟨rfl, i, hi, rfl⟩), fun j hj => ?_⟩
      · rw [if_neg (by omega), Nat.add_sub_cancel, ← ev] at this; exact this
      · by_cases hji : j = i
        · rw [hji, mI_SI, if_pos ⟨rfl, rfl⟩]; exact ev
        · rw [mI_SI, if_neg (fun z => hji (ln_inj hq hl (by omega) hl hi z.2).2)]; exact c1 j (by omega)
    refine qX1_sweepLane_18 a _ _ _ _ _ ta1 hS1 ⟨fun z => ?_, fun _ w1 e1 w2 e2 w3 e3 => ?_⟩
    · rw [L32, nI_leI (by omega) (by omega)] at z; omega
    · have g1 : w1 = nI (if q < 2 then 31 - i else i) := by
        rw [e1, L2]
        by_cases h2 : q < 2
        · rw [if_neg (fun z => by rw [nI_leI (by omega) (by omega)] at z; omega), if_pos h2, show (31 : Int32) = iI 31 from rfl, ii_nat i, ii_sub, ii_nat]
          congr 1; omega
        · rw [if_pos ((nI_leI (by omega) (by omega)).mpr (by omega)), if_neg h2]
      have g2 : w2 = nI (lnX q l i) := by
        rw [e2, g1]; unfold lnX
        by_cases hp : q % 2 = 0
        · rw [decide_eq_true hp, if_neg (by decide), if_pos hp]
        · rw [decide_eq_false hp, if_pos (by decide), if_neg hp]
      have g3 : w3 = nI (lnY q l i) := by
        rw [e3, g1]; unfold lnY
        by_cases hp : q % 2 = 0
        · rw [decide_eq_true hp, if_neg (by decide), if_pos hp]
        · rw [decide_eq_false hp, if_pos (by decide), if_neg hp]
      have gi : nI q * 1024 + w3 * 32 + w2 = nI (vwI q (lnX q l i) (lnY q l i)) := by
        rw [g2, g3, L1024, L32, pk_mul, pk_mul, nI_add, nI_add]; rfl
      have hib : vwI q (lnX q l i) (lnY q l i) < 4096 := by unfold vwI; omega
      have vi : vp_in (nI (vwI q (lnX q l i) (lnY q l i))) 4096 := vp_in_nI hib (by omega)
      rw [gi, nI_clamp (by omega), g2, g3, nI_1]
      refine c1_isLand hS1 ta1 hL1 o1 o2 ⟨_, rfl, hS1, ta1, fun z => ?_, fun z => ?_⟩
      · have hw := b2i_0.mp z
        rcases (show i = 0 ∨ ∃ r, i = r + 1 by cases i with | zero => exact Or.inl rfl | succ r => exact Or.inr ⟨r, rfl⟩) with rfl | ⟨r, rfl⟩
        · rw [if_pos rfl]
          refine ⟨fun _ => ⟨fun _ => ⟨vi, wr _ ?_⟩, fun z2 => absurd (by decide) z2⟩, fun z2 => absurd z2 (by decide)⟩
          rw [vw_0 hw o3]
        · rw [if_neg (by omega), Nat.add_sub_cancel]
          obtain ⟨k1, k2⟩ := ln_fw (l := l) hq hi
          obtain ⟨p1, p2, p3⟩ := ln_ok (l := l) hq hl (show r < 32 by omega)
          have n1 := vw_n1 hw o3
          have n2 := vw_n2 hw o3
          rw [k1, k2] at n1 n2
          cases hla : coLand C (lnX q l r) (lnY q l r) with
          | true =>
            rw [vw_land hla]
            refine ⟨fun z2 => absurd rfl z2, fun _ => ?_⟩
            refine c1_sortBeside hS1 ta1 hC1 ok hq o1 o2 ⟨_, rfl, hS1, ta1, vi, wr _ ?_⟩
            rw [n1 hla, show (4 : Int32) = nI 4 from rfl, nI_add]
          | false =>
            have n3 := n2 p3 hla
            have hvw := vw_w ok (q := q) p1 p2 hla
            rw [p3] at hvw
            rcases hvw with ⟨u1, u2⟩ | ⟨u1, m, u2, u3, u4⟩
            · rw [if_pos u1] at n3
              rw [u2]
              refine ⟨fun _ => ⟨fun _ => ⟨vi, wr _ n3.symm⟩, fun z2 => absurd (by decide) z2⟩, fun z2 => absurd z2 (by decide)⟩
            · rw [if_neg u1] at n3
              refine ⟨fun _ => ⟨fun z2 => ?_, fun _ => ⟨vi, wr _ n3.symm⟩⟩, fun z2 => ?_⟩
              · rw [u4, show (0 : Int32) = nI 0 from rfl, nI_leI (by omega) (by omega)] at z2; omega
              · rw [u4] at z2
                have := congrArg Int32.toInt z2
                rw [nI_toI (by omega), show (-1 : Int32).toInt = -1 by decide] at this
                omega
      · have hw : coLand C (lnX q l i) (lnY q l i) = true := by
          cases hb : coLand C (lnX q l i) (lnY q l i) with
          | true => rfl
          | false => rw [hb] at z; exact absurd rfl z
        exact ⟨vi, wr _ (vw_land hw).symm⟩
  · rintro h1 ⟨f1, c1⟩
    have ta1 : mT h1 a = 2 := by rw [f1.1.2.1]; exact ta
    exact qX1_sweepLane_18 a _ _ _ _ _ ta1 (f1.1.sk hS) ⟨fun _ => K h1 f1 c1, fun z => absurd (by decide) z⟩
end
