/-! the sort of what is faced, the model's -/
def sV (r : Option Nat) : Int32 := match r with
  | some s => nI s
  | none => -1
theorem fcS_at {C : aCo} {q : Nat} (hq : q < 4) : ∀ (r x y n : Nat), rm4 q x y = r → x < 32 → y < 32 → coLand C x y = false → fcS C q r x y = n → 0 < n →
    ∃ u v, u < 32 ∧ v < 32 ∧ 0 < rm4 q u v ∧ (u : Int) = x + (n - 1) * sX q ∧ (v : Int) = y + (n - 1) * sY q ∧ coLand C u v = false ∧ coLand C (fwX q u) (fwY q v) = true ∧ fcO C q r x y = soB C q u v := by
  intro r
  induction r with
  | zero => intro x y n _ _ _ _ e h0; unfold fcS at e; omega
  | succ r ih =>
    intro x y n hr hx hy hw e h0
    obtain ⟨f1, f2, f3, f4, f5⟩ := rm4_fw hq hx hy (by omega)
    rw [fcS] at e
    rw [fcO]
    cases hl : coLand C (fwX q x) (fwY q y) with
    | true =>
      rw [hl, if_pos rfl] at e
      refine ⟨x, y, hx, hy, by omega, ?_, ?_, hw, hl, by rw [if_pos rfl]⟩
      · rw [← e]; simp
      · rw [← e]; simp
    | false =>
      rw [hl, if_neg (by decide)] at e
      by_cases hz : fcS C q r (fwX q x) (fwY q y) = 0
      · rw [if_pos hz] at e; omega
      · rw [if_neg hz] at e
        obtain ⟨u, v, a1, a2, a3, a4, a5, a6, a7, a8⟩ := ih (fwX q x) (fwY q y) (n - 1) (by omega) f1 f2 hl (by omega) (by omega)
        have e1 : ((n - 1 : Nat) : Int) = (n : Int) - 1 := by omega
        refine ⟨u, v, a1, a2, a3, ?_, ?_, a6, a7, by rw [if_neg (by decide)]; exact a8⟩
        · rw [a4, f4, e1, Int.sub_mul, Int.sub_mul]; omega
        · rw [a5, f5, e1, Int.sub_mul, Int.sub_mul]; omega
/-- an echo's count; whether none may come -/
def ecC (C : aCo) (q x y : Nat) : Nat := if fcS C q (rm4 q x y) x y = 0 then 0 else if fcO C q (rm4 q x y) x y = 1 then 0 else 2 * fcS C q (rm4 q x y) x y
def siC (C : aCo) (q x y : Nat) : Bool := decide (fcS C q (rm4 q x y) x y = 0) || !decide (fcO C q (rm4 q x y) x y = 0)
theorem soF_le {C : aCo} (ok : okRing C) {q x y : Nat} : ∀ r i s, i + r ≤ cN C → soF C q x y r i = some s → s ≤ 2 := by
  intro r
  induction r with
  | zero => intro i s _ h; cases h
  | succ r ih =>
    intro i s hi h
    unfold soF at h
    split at h
    · cases h; exact (ok.2 i (by omega)).1.2.2
    · exact ih (i + 1) s (by omega) h
theorem fcO_le {C : aCo} (ok : okRing C) {q : Nat} : ∀ r x y, fcO C q r x y ≤ 2 := by
  intro r
  induction r with
  | zero => intro x y; exact Nat.zero_le 2
  | succ r ih =>
    intro x y
    unfold fcO
    split
    · unfold soB
      cases h : soF C q x y (cN C) 0 with
      | none => exact Nat.zero_le 2
      | some s => exact soF_le ok _ _ s (by omega) h
    · exact ih _ _
section
variable {G : mG} {d : Nat} {b : Nat × Nat} {h : mH} {Q : Option mV → mH → Prop}
set_option maxHeartbeats 2000000 in
theorem m_sortAt {c q x y : Nat} {C : aCo} (hS : mSk h) (hc : c < 8) (hq : q < 4) (hx : x < 32) (hy : y < 32) (hr : 0 < rm4 q x y) (hC : mCoM h c C) (ok : okRing C) (K : Q (some (.inl (sV (soF C q x y (cN C) 0)))) h) : mC G kX12_sortAt (d + 1) b [.inr (some 47), .inl (nI c), .inl (nI (fwX q x)), .inl (nI (fwY q y)), .inl (nI q)] h Q := by
  refine qX12_sortAt _ _ _ _ hS ?_
  have h16 := ok.1.2.1
  obtain ⟨g1, g2, -, -, -⟩ := rm4_fw hq hx hy hr
  refine mloop (W := fun i h1 => mW G kX12_sortAt (d + 1) b 3 [some (.inr (some 47)), some (.inl (nI c)), some (.inl (nI (fwX q x))), some (.inl (nI (fwY q y))), some (.inl (nI q)), some (.inl (nI i)), none, none, none, none] [] h1 Q)
    (P := fun i h1 => h1 = h ∧ soF C q x y (cN C - i) i = soF C q x y (cN C) 0) (cN C) ?_ ?_ 0 h (by omega) ⟨rfl, rfl⟩
  · rintro i h1 hi ⟨rfl, e1⟩ ih
    have hnx := nxt_lt hi
    obtain ⟨⟨r1, r2, r0⟩, -⟩ := ok.2 i hi
    obtain ⟨⟨r3, r4, -⟩, -⟩ := ok.2 _ hnx
    obtain ⟨k1, k2, k3⟩ := hC.2 i hi
    obtain ⟨k4, k5, -⟩ := hC.2 _ hnx
    have hstep : soF C q x y (cN C - i) i = if soH C q x y i then some (cS C i) else soF C q x y (cN C - (i + 1)) (i + 1) := by
      rw [show cN C - i = (cN C - (i + 1)) + 1 by omega]; rfl
    have next : soH C q x y i = false → mW G kX12_sortAt (d + 1) b 3 [some (.inr (some 47)), some (.inl (nI c)), some (.inl (nI (fwX q x))), some (.inl (nI (fwY q y))), some (.inl (nI q)), some (.inl (nI (i + 1))), none, none, none, none] [] h1 Q := fun e => ih h1 ⟨rfl, by
      rw [← e1, hstep, e, if_neg (by decide)]⟩
    have found : soH C q x y i = true → Q (some (.inl (nI (cS C i)))) h1 := fun e => by
      rw [← e1, hstep, e, if_pos rfl] at K; exact K
    have hcx : (16 : Int32) * nI c + nI i = nI (16 * c + i) := by rw [L16, pk_mul, nI_add]
    refine qX12_sortAt_3 _ _ _ _ _ hS ⟨vp_in_nI hc (by omega), fun z => ?_, fun _ => ?_⟩
    · rw [nI_clamp (by omega), hC.1, nI_leI (by omega) (by omega)] at z; omega
    · rw [hcx, nI_clamp (by omega), nI_1, nI_1, nI_1, rem2_n (by omega), rem2_n (by omega)]
      have v1 : vp_in (nI (16 * c + i)) 128 := vp_in_nI (by omega) (by omega)
      have v2 : vp_in (nI (16 * c + nxt (cN C) i)) 128 := vp_in_nI (by omega) (by omega)
      refine m_next0 hS hc hC ok.sm hi ⟨_, rfl, hS, fun w4 e4 w5 e5 => ?_⟩
      rw [nI_clamp (by omega), k1, k2, k3, k4, k5]
      have hw4 : w4 = b2i (decide (i % 2 = 0)) := by
        rw [e4]
        rcases (show i % 2 = 0 ∨ i % 2 = 1 by omega) with hp | hp <;> rw [hp] <;> rfl
      have hw5 : w5 = b2i (decide (q % 2 = 0)) := by
        rw [e5]
        rcases (show q % 2 = 0 ∨ q % 2 = 1 by omega) with hp | hp <;> rw [hp] <;> rfl
      refine ⟨fun z => ⟨fun y4 => ⟨v1, fun w7 e7 => ?_⟩, fun y4 => ⟨v1, fun w21 e21 => ?_⟩⟩, fun z => next ?_⟩
      · have hi1 : i % 2 = 1 := by
          rw [hw4, b2i_0] at y4; simp at y4; omega
        have hq1 : q % 2 = 1 := by
          rw [← z] at hw5; rw [y4] at hw5
          have := b2i_0.mp hw5.symm; simp at this; omega
        have hw7 : w7 = nI (if q = 1 then x + 1 else x) := by
          rw [e7]
          rcases (show q = 1 ∨ q = 3 by omega) with rfl | rfl
          · rfl
          · rw [if_pos (by decide)]
            unfold rm4 at hr; simp at hr
            show nI (x - 1 + 1) = nI x
            rw [show x - 1 + 1 = x by omega]
        have hfy : fwY q y = y := by unfold fwY; rw [if_neg (by omega), if_neg (by omega)]
        have hsoH : soH C q x y i = (decide (cX C i = (if q = 1 then x + 1 else x)) && btw y (cY C i) (cY C (nxt (cN C) i))) := by
          unfold soH; rw [if_neg (by omega)]; simp [hi1]
        have hle : (if q = 1 then x + 1 else x) < 64 := by split <;> omega
        rw [hw7]
        rw [hfy] at next ⊢
        have qe : nI (cX C i) = nI (if q = 1 then x + 1 else x) ↔ cX C i = (if q = 1 then x + 1 else x) := nI_eq (by omega) (by omega)
        refine ⟨fun z2 => ⟨fun _ => next ?_, fun z3 => absurd rfl z3⟩, fun z2 => ⟨v1, v2, fun w12 e12 => ⟨fun z3 => next ?_, fun z3 => ⟨v1, found ?_⟩⟩⟩⟩
        · rw [hsoH, show decide (cX C i = (if q = 1 then x + 1 else x)) = false from decide_eq_false (fun t => z2 (qe.mpr t))]; rfl
        · rw [e12] at z3
          have hb : btw y (cY C i) (cY C (nxt (cN C) i)) = false := by
            apply (f_btw (by omega) (by omega) (by omega)).mp
            apply Classical.byContradiction
            intro hn
            rw [if_neg hn] at z3
            exact absurd z3 (by decide)
          rw [hsoH, hb, Bool.and_false]
        · rw [e12] at z3
          have hb : btw y (cY C i) (cY C (nxt (cN C) i)) = true := by
            cases hbb : btw y (cY C i) (cY C (nxt (cN C) i)) with
            | true => rfl
            | false => rw [if_pos ((f_btw (by omega) (by omega) (by omega)).mpr hbb)] at z3; exact absurd rfl z3
          rw [hsoH, hb, show decide (cX C i = (if q = 1 then x + 1 else x)) = true from decide_eq_true (qe.mp z2)]; rfl
      · have hi1 : i % 2 = 0 := by
          rw [hw4, b2i_0] at y4; simp at y4; omega
        have hq1 : q % 2 = 0 := by
          rw [← z, hw4] at hw5
          rcases (show q % 2 = 0 ∨ q % 2 = 1 by omega) with hp | hp
          · exact hp
          · rw [hi1, hp] at hw5; exact absurd hw5 (by decide)
        have hw7 : w21 = nI (if q = 0 then y + 1 else y) := by
          rw [e21]
          rcases (show q = 0 ∨ q = 2 by omega) with rfl | rfl
          · rfl
          · rw [if_pos (by decide)]
            unfold rm4 at hr; simp at hr
            show nI (y - 1 + 1) = nI y
            rw [show y - 1 + 1 = y by omega]
        have hfy : fwX q x = x := by unfold fwX; rw [if_neg (by omega), if_neg (by omega)]
        have hsoH : soH C q x y i = (decide (cY C i = (if q = 0 then y + 1 else y)) && btw x (cX C i) (cX C (nxt (cN C) i))) := by
          unfold soH; rw [if_pos (by omega)]; simp [hi1]
        have hle : (if q = 0 then y + 1 else y) < 64 := by split <;> omega
        rw [hw7]
        rw [hfy] at next ⊢
        have qe : nI (cY C i) = nI (if q = 0 then y + 1 else y) ↔ cY C i = (if q = 0 then y + 1 else y) := nI_eq (by omega) (by omega)
        refine ⟨fun z2 => ⟨fun _ => next ?_, fun z3 => absurd rfl z3⟩, fun z2 => ⟨v1, v2, fun w12 e12 => ⟨fun z3 => next ?_, fun z3 => ⟨v1, found ?_⟩⟩⟩⟩
        · rw [hsoH, show decide (cY C i = (if q = 0 then y + 1 else y)) = false from decide_eq_false (fun t => z2 (qe.mpr t))]; rfl
        · rw [e12] at z3
          have hb : btw x (cX C i) (cX C (nxt (cN C) i)) = false := by
            apply (f_btw (by omega) (by omega) (by omega)).mp
            apply Classical.byContradiction
            intro hn
            rw [if_neg hn] at z3
            exact absurd z3 (by decide)
          rw [hsoH, hb, Bool.and_false]
        · rw [e12] at z3
          have hb : btw x (cX C i) (cX C (nxt (cN C) i)) = true := by
            cases hbb : btw x (cX C i) (cX C (nxt (cN C) i)) with
            | true => rfl
            | false => rw [if_pos ((f_btw (by omega) (by omega) (by omega)).mpr hbb)] at z3; exact absurd rfl z3
          rw [hsoH, hb, show decide (cY C i = (if q = 0 then y + 1 else y)) = true from decide_eq_true (qe.mp z2)]; rfl
      · rw [hw4, hw5] at z
        unfold soH
        rcases (show q % 2 = 0 ∨ q % 2 = 1 by omega) with hp | hp <;> rcases (show i % 2 = 0 ∨ i % 2 = 1 by omega) with hp2 | hp2 <;> rw [hp, hp2] at z ⊢ <;> first | exact absurd rfl z | simp
  · rintro h1 ⟨rfl, e1⟩
    refine qX12_sortAt_3 _ _ _ _ _ hS ⟨vp_in_nI hc (by omega), fun _ => ?_, fun z => ?_⟩
    · rw [← e1, Nat.sub_self] at K; exact K
    · rw [nI_clamp (by omega), hC.1] at z
      exact absurd (Int32.le_refl _) z
end
