def skTL : List (Nat × Nat × Nat) := [(8, 12, 0), (9, 10, 0), (10, 100, 220), (11, 3, 0), (12, 100, 6), (13, 100, 6), (14, 100, 6), (15, 100, 6), (16, 4, 0), (17, 100, 160), (18, 100, 13), (19, 100, 12), (20, 100, 20), (21, 4, 0), (22, 100, 160), (23, 100, 13), (24, 100, 12), (25, 100, 20), (26, 100, 9), (27, 5, 0), (28, 7, 0), (29, 111, 12), (30, 100, 32), (31, 100, 128), (32, 100, 32), (33, 1, 0), (34, 110, 8), (35, 100, 32), (36, 100, 32), (37, 100, 32), (38, 11, 0), (39, 100, 4096), (40, 100, 100), (41, 9, 0), (42, 100, 6), (43, 100, 6), (44, 100, 6), (45, 100, 32), (46, 100, 1024), (47, 13, 0), (48, 100, 8), (49, 100, 128), (50, 100, 128), (51, 100, 128), (52, 101, 8192), (53, 100, 6), (54, 100, 6), (55, 100, 6), (56, 100, 6), (57, 105, 220), (58, 100, 180), (59, 100, 180), (60, 100, 12), (61, 100, 12), (62, 100, 12), (63, 100, 180), (64, 100, 12), (65, 100, 12), (66, 100, 12), (67, 100, 180), (68, 100, 9), (69, 100, 12), (70, 100, 12), (71, 100, 12), (72, 100, 12), (73, 100, 12), (74, 100, 12), (75, 100, 72), (76, 100, 72), (77, 100, 72), (78, 100, 12288), (79, 100, 12288), (80, 100, 12288), (81, 100, 6), (82, 100, 6), (83, 100, 6), (84, 100, 8192), (85, 100, 8192), (86, 100, 65), (87, 100, 25350), (88, 101, 1024), (89, 100, 4096), (90, 101, 1024), (91, 101, 1024), (92, 100, 1024), (93, 100, 160)]
def skRL : List (Nat × Nat × Nat) := [(8, 0, 9), (8, 1, 27), (8, 2, 28), (8, 3, 11), (8, 4, 33), (8, 5, 38), (8, 6, 41), (9, 0, 10), (11, 0, 12), (11, 1, 13), (11, 2, 14), (11, 3, 15), (11, 7, 26), (27, 0, 93), (28, 0, 29), (28, 6, 11), (28, 7, 30), (28, 8, 31), (28, 9, 32), (33, 0, 34), (33, 3, 35), (33, 4, 36), (33, 5, 37), (38, 0, 39), (38, 1, 40), (41, 0, 42), (41, 1, 43), (41, 2, 44), (41, 10, 45), (41, 11, 46), (47, 1, 48), (47, 2, 49), (47, 3, 50), (47, 4, 51), (47, 5, 52), (47, 7, 53), (47, 8, 54), (47, 9, 55), (47, 10, 56), (47, 11, 57), (47, 22, 58), (47, 23, 59), (47, 24, 60), (47, 25, 61), (47, 26, 62), (47, 27, 63), (47, 28, 64), (47, 29, 65), (47, 30, 66), (47, 31, 67), (47, 32, 68), (47, 39, 69), (47, 40, 70), (47, 41, 71), (47, 42, 72), (47, 43, 73), (47, 44, 74), (47, 45, 75), (47, 46, 76), (47, 47, 77), (47, 48, 78), (47, 49, 79), (47, 50, 80), (47, 54, 81), (47, 55, 82), (47, 56, 83), (47, 57, 84), (47, 58, 85), (47, 59, 86), (47, 60, 87), (47, 61, 88), (47, 62, 89), (47, 63, 90), (47, 64, 91), (47, 65, 92)]
def skBTL : List (Nat × Nat × Nat × Nat) := [(2, 6, 100, 16), (2, 7, 100, 16), (2, 8, 100, 16), (2, 1, 100, 32), (2, 2, 100, 32), (2, 3, 100, 4096), (2, 4, 101, 4), (2, 5, 100, 1536), (4, 1, 100, 160), (4, 2, 100, 13), (4, 3, 100, 12), (4, 4, 100, 20), (6, 1, 112, 6), (8, 1, 100, 256), (8, 2, 100, 256)]
def skBRL : List (Nat × Nat × Nat) := [(2, 2, 6), (2, 3, 7), (2, 4, 8), (2, 5, 1), (2, 6, 2), (2, 7, 3), (2, 8, 4), (2, 9, 5), (4, 0, 1), (4, 1, 2), (4, 2, 3), (4, 3, 4), (6, 6, 1), (8, 4, 1), (8, 5, 2)]
def skCF : List (Nat × Nat) := [(1, 0), (1, 3), (1, 4), (1, 5), (2, 2), (2, 3), (2, 4), (2, 5), (2, 6), (2, 7), (2, 8), (2, 9), (3, 0), (3, 1), (3, 2), (3, 3), (3, 7), (4, 0), (4, 1), (4, 2), (4, 3), (5, 0), (6, 6), (7, 0), (7, 6), (7, 7), (7, 8), (7, 9), (8, 4), (8, 5), (9, 0), (9, 1), (9, 2), (9, 10), (9, 11), (10, 0), (11, 0), (11, 1), (12, 0), (12, 1), (12, 2), (12, 3), (12, 4), (12, 5), (12, 6), (13, 1), (13, 2), (13, 3), (13, 4), (13, 5), (13, 7), (13, 8), (13, 9), (13, 10), (13, 11), (13, 22), (13, 23), (13, 24), (13, 25), (13, 26), (13, 27), (13, 28), (13, 29), (13, 30), (13, 31), (13, 32), (13, 39), (13, 40), (13, 41), (13, 42), (13, 43), (13, 44), (13, 45), (13, 46), (13, 47), (13, 48), (13, 49), (13, 50), (13, 54), (13, 55), (13, 56), (13, 57), (13, 58), (13, 59), (13, 60), (13, 61), (13, 62), (13, 63), (13, 64), (13, 65)]
/-- the skeleton: which cells there are, and their references that never change -/
def mSk (h : mH) : Prop := (∀ q ∈ skTL, mT h q.1 = q.2.1 ∧ mL h q.1 = q.2.2) ∧ (∀ q ∈ skRL, mR h q.1 q.2.1 = some q.2.2) ∧ (94 ≤ mN h ∧ ∀ a, mN h ≤ a → mT h a = 0) ∧ (∀ q ∈ skBTL, ∀ a, mT h a = q.1 → mT h (a + q.2.1) = q.2.2.1 ∧ mL h (a + q.2.1) = q.2.2.2) ∧ (∀ q ∈ skBRL, ∀ a, mT h a = q.1 → mR h a q.2.1 = some (a + q.2.2))
theorem sk_SI {h : mH} {a k : Nat} {x : Int32} (hS : mSk h) : mSk (mSI h a k x) := hS
/-- the skeleton while a new object has no fields yet: the single objects alone -/
def mSkA (h : mH) : Prop := (∀ q ∈ skTL, mT h q.1 = q.2.1 ∧ mL h q.1 = q.2.2) ∧ (∀ q ∈ skRL, mR h q.1 q.2.1 = some q.2.2)
theorem sk_ids : (∀ q ∈ skTL, q.1 < 94) ∧ ∀ q ∈ skRL, q.1 < 94 := by decide +kernel
theorem sk_Al {h : mH} {t n : Nat} (hS : mSk h) : mSkA (mAl h t n) := by
  have h93 := hS.2.2.1.1
  refine ⟨fun q hq => ?_, fun q hq => ?_⟩
  · have h1 := sk_ids.1 q hq
    have hne : q.1 ≠ h.1 := by have : h.1 = mN h := rfl; omega
    exact ⟨(if_neg hne).trans (hS.1 q hq).1, (if_neg hne).trans (hS.1 q hq).2⟩
  · have h1 := sk_ids.2 q hq
    have hne : q.1 ≠ h.1 := by have : h.1 = mN h := rfl; omega
    show (if q.1 = h.1 then fun _ => none else h.2.2.2.2 q.1) q.2.1 = _
    rw [if_neg hne]
    exact hS.2.1 q hq
theorem mT_Al_old {h h1 : mH} {t n a s : Nat} (hS : mSk h) (e : h1 = mAl h t n) (ha : mT h a = s) (hs : s ≠ 0) : mT h1 a = s := by
  subst e
  have hne : a ≠ h.1 := fun z => hs (by rw [← ha]; exact hS.2.2.1.2 a (by rw [z]; exact Nat.le_refl _))
  exact (if_neg hne).trans ha
theorem sk_cf : (∀ q ∈ skRL, ∃ t ∈ skTL, t.1 = q.1 ∧ (t.2.1, q.2.1) ∈ skCF) ∧ (∀ q ∈ skBRL, (q.1, q.2.1) ∈ skCF) ∧ ∀ q ∈ skCF, q.1 < 100 := by decide +kernel
theorem sk_SR {h : mH} {a k t : Nat} {r : Option Nat} (hS : mSk h) (ht : mT h a = t) (hk : (t, k) ∉ skCF) : mSk (mSR h a k r) := by
  refine ⟨hS.1, fun q hq => ?_, hS.2.2.1, hS.2.2.2.1, fun q hq c hc => ?_⟩
  · obtain ⟨u, hu, e1, e2⟩ := sk_cf.1 q hq
    have hne : ¬ (q.1 = a ∧ q.2.1 = k) := fun z => by
      apply hk
      have := (hS.1 u hu).1
      rw [e1, z.1, ht] at this
      rw [this, ← z.2]; exact e2
    have h0 := hS.2.1 q hq
    show mU (mR h) a k r q.1 q.2.1 = _
    by_cases hq1 : q.1 = a
    · rw [hq1, mU_on]
      dsimp only
      rw [if_neg (fun z => hne ⟨hq1, z⟩), ← hq1]; exact h0
    · rw [mU_off hq1]; exact h0
  · have h0 := hS.2.2.2.2 q hq c hc
    have hcf := sk_cf.2.1 q hq
    show mU (mR h) a k r c q.2.1 = _
    by_cases hq1 : c = a
    · rw [hq1, mU_on]
      dsimp only
      have hc' : mT h c = q.1 := hc
      rw [if_neg (fun z => hk (by rw [← z, ← ht, ← hq1, hc']; exact hcf)), ← hq1]; exact h0
    · rw [mU_off hq1]; exact h0
theorem sk_CFbig {t k : Nat} (ht : 100 ≤ t) : (t, k) ∉ skCF := fun z => by have := sk_cf.2.2 _ z; simp at this; omega
theorem skT_8 {h : mH} (hS : mSk h) : mT h 8 = 12 := (hS.1 (8, 12, 0) (by decide)).1
theorem skT_9 {h : mH} (hS : mSk h) : mT h 9 = 10 := (hS.1 (9, 10, 0) (by decide)).1
theorem skT_10 {h : mH} (hS : mSk h) : mT h 10 = 100 := (hS.1 (10, 100, 220) (by decide)).1
theorem skL_10 {h : mH} (hS : mSk h) : mL h 10 = 220 := (hS.1 (10, 100, 220) (by decide)).2
theorem skT_11 {h : mH} (hS : mSk h) : mT h 11 = 3 := (hS.1 (11, 3, 0) (by decide)).1
theorem skT_12 {h : mH} (hS : mSk h) : mT h 12 = 100 := (hS.1 (12, 100, 6) (by decide)).1
theorem skL_12 {h : mH} (hS : mSk h) : mL h 12 = 6 := (hS.1 (12, 100, 6) (by decide)).2
theorem skT_13 {h : mH} (hS : mSk h) : mT h 13 = 100 := (hS.1 (13, 100, 6) (by decide)).1
theorem skL_13 {h : mH} (hS : mSk h) : mL h 13 = 6 := (hS.1 (13, 100, 6) (by decide)).2
theorem skT_14 {h : mH} (hS : mSk h) : mT h 14 = 100 := (hS.1 (14, 100, 6) (by decide)).1
theorem skL_14 {h : mH} (hS : mSk h) : mL h 14 = 6 := (hS.1 (14, 100, 6) (by decide)).2
theorem skT_15 {h : mH} (hS : mSk h) : mT h 15 = 100 := (hS.1 (15, 100, 6) (by decide)).1
theorem skL_15 {h : mH} (hS : mSk h) : mL h 15 = 6 := (hS.1 (15, 100, 6) (by decide)).2
theorem skT_16 {h : mH} (hS : mSk h) : mT h 16 = 4 := (hS.1 (16, 4, 0) (by decide)).1
theorem skT_17 {h : mH} (hS : mSk h) : mT h 17 = 100 := (hS.1 (17, 100, 160) (by decide)).1
theorem skL_17 {h : mH} (hS : mSk h) : mL h 17 = 160 := (hS.1 (17, 100, 160) (by decide)).2
theorem skT_18 {h : mH} (hS : mSk h) : mT h 18 = 100 := (hS.1 (18, 100, 13) (by decide)).1
theorem skL_18 {h : mH} (hS : mSk h) : mL h 18 = 13 := (hS.1 (18, 100, 13) (by decide)).2
theorem skT_19 {h : mH} (hS : mSk h) : mT h 19 = 100 := (hS.1 (19, 100, 12) (by decide)).1
theorem skL_19 {h : mH} (hS : mSk h) : mL h 19 = 12 := (hS.1 (19, 100, 12) (by decide)).2
theorem skT_20 {h : mH} (hS : mSk h) : mT h 20 = 100 := (hS.1 (20, 100, 20) (by decide)).1
theorem skL_20 {h : mH} (hS : mSk h) : mL h 20 = 20 := (hS.1 (20, 100, 20) (by decide)).2
theorem skT_21 {h : mH} (hS : mSk h) : mT h 21 = 4 := (hS.1 (21, 4, 0) (by decide)).1
theorem skT_22 {h : mH} (hS : mSk h) : mT h 22 = 100 := (hS.1 (22, 100, 160) (by decide)).1
theorem skL_22 {h : mH} (hS : mSk h) : mL h 22 = 160 := (hS.1 (22, 100, 160) (by decide)).2
theorem skT_23 {h : mH} (hS : mSk h) : mT h 23 = 100 := (hS.1 (23, 100, 13) (by decide)).1
theorem skL_23 {h : mH} (hS : mSk h) : mL h 23 = 13 := (hS.1 (23, 100, 13) (by decide)).2
theorem skT_24 {h : mH} (hS : mSk h) : mT h 24 = 100 := (hS.1 (24, 100, 12) (by decide)).1
theorem skL_24 {h : mH} (hS : mSk h) : mL h 24 = 12 := (hS.1 (24, 100, 12) (by decide)).2
theorem skT_25 {h : mH} (hS : mSk h) : mT h 25 = 100 := (hS.1 (25, 100, 20) (by decide)).1
theorem skL_25 {h : mH} (hS : mSk h) : mL h 25 = 20 := (hS.1 (25, 100, 20) (by decide)).2
theorem skT_26 {h : mH} (hS : mSk h) : mT h 26 = 100 := (hS.1 (26, 100, 9) (by decide)).1
theorem skL_26 {h : mH} (hS : mSk h) : mL h 26 = 9 := (hS.1 (26, 100, 9) (by decide)).2
theorem skT_27 {h : mH} (hS : mSk h) : mT h 27 = 5 := (hS.1 (27, 5, 0) (by decide)).1
theorem skT_28 {h : mH} (hS : mSk h) : mT h 28 = 7 := (hS.1 (28, 7, 0) (by decide)).1
theorem skT_29 {h : mH} (hS : mSk h) : mT h 29 = 111 := (hS.1 (29, 111, 12) (by decide)).1
theorem skL_29 {h : mH} (hS : mSk h) : mL h 29 = 12 := (hS.1 (29, 111, 12) (by decide)).2
theorem skT_30 {h : mH} (hS : mSk h) : mT h 30 = 100 := (hS.1 (30, 100, 32) (by decide)).1
theorem skL_30 {h : mH} (hS : mSk h) : mL h 30 = 32 := (hS.1 (30, 100, 32) (by decide)).2
theorem skT_31 {h : mH} (hS : mSk h) : mT h 31 = 100 := (hS.1 (31, 100, 128) (by decide)).1
theorem skL_31 {h : mH} (hS : mSk h) : mL h 31 = 128 := (hS.1 (31, 100, 128) (by decide)).2
theorem skT_32 {h : mH} (hS : mSk h) : mT h 32 = 100 := (hS.1 (32, 100, 32) (by decide)).1
theorem skL_32 {h : mH} (hS : mSk h) : mL h 32 = 32 := (hS.1 (32, 100, 32) (by decide)).2
theorem skT_33 {h : mH} (hS : mSk h) : mT h 33 = 1 := (hS.1 (33, 1, 0) (by decide)).1
theorem skT_34 {h : mH} (hS : mSk h) : mT h 34 = 110 := (hS.1 (34, 110, 8) (by decide)).1
theorem skL_34 {h : mH} (hS : mSk h) : mL h 34 = 8 := (hS.1 (34, 110, 8) (by decide)).2
theorem skT_35 {h : mH} (hS : mSk h) : mT h 35 = 100 := (hS.1 (35, 100, 32) (by decide)).1
theorem skL_35 {h : mH} (hS : mSk h) : mL h 35 = 32 := (hS.1 (35, 100, 32) (by decide)).2
theorem skT_36 {h : mH} (hS : mSk h) : mT h 36 = 100 := (hS.1 (36, 100, 32) (by decide)).1
theorem skL_36 {h : mH} (hS : mSk h) : mL h 36 = 32 := (hS.1 (36, 100, 32) (by decide)).2
theorem skT_37 {h : mH} (hS : mSk h) : mT h 37 = 100 := (hS.1 (37, 100, 32) (by decide)).1
theorem skL_37 {h : mH} (hS : mSk h) : mL h 37 = 32 := (hS.1 (37, 100, 32) (by decide)).2
theorem skT_38 {h : mH} (hS : mSk h) : mT h 38 = 11 := (hS.1 (38, 11, 0) (by decide)).1
theorem skT_39 {h : mH} (hS : mSk h) : mT h 39 = 100 := (hS.1 (39, 100, 4096) (by decide)).1
theorem skL_39 {h : mH} (hS : mSk h) : mL h 39 = 4096 := (hS.1 (39, 100, 4096) (by decide)).2
theorem skT_40 {h : mH} (hS : mSk h) : mT h 40 = 100 := (hS.1 (40, 100, 100) (by decide)).1
theorem skL_40 {h : mH} (hS : mSk h) : mL h 40 = 100 := (hS.1 (40, 100, 100) (by decide)).2
theorem skT_41 {h : mH} (hS : mSk h) : mT h 41 = 9 := (hS.1 (41, 9, 0) (by decide)).1
theorem skT_42 {h : mH} (hS : mSk h) : mT h 42 = 100 := (hS.1 (42, 100, 6) (by decide)).1
theorem skL_42 {h : mH} (hS : mSk h) : mL h 42 = 6 := (hS.1 (42, 100, 6) (by decide)).2
theorem skT_43 {h : mH} (hS : mSk h) : mT h 43 = 100 := (hS.1 (43, 100, 6) (by decide)).1
theorem skL_43 {h : mH} (hS : mSk h) : mL h 43 = 6 := (hS.1 (43, 100, 6) (by decide)).2
theorem skT_44 {h : mH} (hS : mSk h) : mT h 44 = 100 := (hS.1 (44, 100, 6) (by decide)).1
theorem skL_44 {h : mH} (hS : mSk h) : mL h 44 = 6 := (hS.1 (44, 100, 6) (by decide)).2
theorem skT_45 {h : mH} (hS : mSk h) : mT h 45 = 100 := (hS.1 (45, 100, 32) (by decide)).1
theorem skL_45 {h : mH} (hS : mSk h) : mL h 45 = 32 := (hS.1 (45, 100, 32) (by decide)).2
theorem skT_46 {h : mH} (hS : mSk h) : mT h 46 = 100 := (hS.1 (46, 100, 1024) (by decide)).1
theorem skL_46 {h : mH} (hS : mSk h) : mL h 46 = 1024 := (hS.1 (46, 100, 1024) (by decide)).2
theorem skT_47 {h : mH} (hS : mSk h) : mT h 47 = 13 := (hS.1 (47, 13, 0) (by decide)).1
theorem skT_48 {h : mH} (hS : mSk h) : mT h 48 = 100 := (hS.1 (48, 100, 8) (by decide)).1
theorem skL_48 {h : mH} (hS : mSk h) : mL h 48 = 8 := (hS.1 (48, 100, 8) (by decide)).2
theorem skT_49 {h : mH} (hS : mSk h) : mT h 49 = 100 := (hS.1 (49, 100, 128) (by decide)).1
theorem skL_49 {h : mH} (hS : mSk h) : mL h 49 = 128 := (hS.1 (49, 100, 128) (by decide)).2
theorem skT_50 {h : mH} (hS : mSk h) : mT h 50 = 100 := (hS.1 (50, 100, 128) (by decide)).1
theorem skL_50 {h : mH} (hS : mSk h) : mL h 50 = 128 := (hS.1 (50, 100, 128) (by decide)).2
theorem skT_51 {h : mH} (hS : mSk h) : mT h 51 = 100 := (hS.1 (51, 100, 128) (by decide)).1
theorem skL_51 {h : mH} (hS : mSk h) : mL h 51 = 128 := (hS.1 (51, 100, 128) (by decide)).2
theorem skT_52 {h : mH} (hS : mSk h) : mT h 52 = 101 := (hS.1 (52, 101, 8192) (by decide)).1
theorem skL_52 {h : mH} (hS : mSk h) : mL h 52 = 8192 := (hS.1 (52, 101, 8192) (by decide)).2
theorem skT_53 {h : mH} (hS : mSk h) : mT h 53 = 100 := (hS.1 (53, 100, 6) (by decide)).1
theorem skL_53 {h : mH} (hS : mSk h) : mL h 53 = 6 := (hS.1 (53, 100, 6) (by decide)).2
theorem skT_54 {h : mH} (hS : mSk h) : mT h 54 = 100 := (hS.1 (54, 100, 6) (by decide)).1
theorem skL_54 {h : mH} (hS : mSk h) : mL h 54 = 6 := (hS.1 (54, 100, 6) (by decide)).2
theorem skT_55 {h : mH} (hS : mSk h) : mT h 55 = 100 := (hS.1 (55, 100, 6) (by decide)).1
theorem skL_55 {h : mH} (hS : mSk h) : mL h 55 = 6 := (hS.1 (55, 100, 6) (by decide)).2
theorem skT_56 {h : mH} (hS : mSk h) : mT h 56 = 100 := (hS.1 (56, 100, 6) (by decide)).1
theorem skL_56 {h : mH} (hS : mSk h) : mL h 56 = 6 := (hS.1 (56, 100, 6) (by decide)).2
theorem skT_57 {h : mH} (hS : mSk h) : mT h 57 = 105 := (hS.1 (57, 105, 220) (by decide)).1
theorem skL_57 {h : mH} (hS : mSk h) : mL h 57 = 220 := (hS.1 (57, 105, 220) (by decide)).2
theorem skT_58 {h : mH} (hS : mSk h) : mT h 58 = 100 := (hS.1 (58, 100, 180) (by decide)).1
theorem skL_58 {h : mH} (hS : mSk h) : mL h 58 = 180 := (hS.1 (58, 100, 180) (by decide)).2
theorem skT_59 {h : mH} (hS : mSk h) : mT h 59 = 100 := (hS.1 (59, 100, 180) (by decide)).1
theorem skL_59 {h : mH} (hS : mSk h) : mL h 59 = 180 := (hS.1 (59, 100, 180) (by decide)).2
theorem skT_60 {h : mH} (hS : mSk h) : mT h 60 = 100 := (hS.1 (60, 100, 12) (by decide)).1
theorem skL_60 {h : mH} (hS : mSk h) : mL h 60 = 12 := (hS.1 (60, 100, 12) (by decide)).2
theorem skT_61 {h : mH} (hS : mSk h) : mT h 61 = 100 := (hS.1 (61, 100, 12) (by decide)).1
theorem skL_61 {h : mH} (hS : mSk h) : mL h 61 = 12 := (hS.1 (61, 100, 12) (by decide)).2
theorem skT_62 {h : mH} (hS : mSk h) : mT h 62 = 100 := (hS.1 (62, 100, 12) (by decide)).1
theorem skL_62 {h : mH} (hS : mSk h) : mL h 62 = 12 := (hS.1 (62, 100, 12) (by decide)).2
theorem skT_63 {h : mH} (hS : mSk h) : mT h 63 = 100 := (hS.1 (63, 100, 180) (by decide)).1
theorem skL_63 {h : mH} (hS : mSk h) : mL h 63 = 180 := (hS.1 (63, 100, 180) (by decide)).2
theorem skT_64 {h : mH} (hS : mSk h) : mT h 64 = 100 := (hS.1 (64, 100, 12) (by decide)).1
theorem skL_64 {h : mH} (hS : mSk h) : mL h 64 = 12 := (hS.1 (64, 100, 12) (by decide)).2
theorem skT_65 {h : mH} (hS : mSk h) : mT h 65 = 100 := (hS.1 (65, 100, 12) (by decide)).1
theorem skL_65 {h : mH} (hS : mSk h) : mL h 65 = 12 := (hS.1 (65, 100, 12) (by decide)).2
theorem skT_66 {h : mH} (hS : mSk h) : mT h 66 = 100 := (hS.1 (66, 100, 12) (by decide)).1
theorem skL_66 {h : mH} (hS : mSk h) : mL h 66 = 12 := (hS.1 (66, 100, 12) (by decide)).2
theorem skT_67 {h : mH} (hS : mSk h) : mT h 67 = 100 := (hS.1 (67, 100, 180) (by decide)).1
theorem skL_67 {h : mH} (hS : mSk h) : mL h 67 = 180 := (hS.1 (67, 100, 180) (by decide)).2
theorem skT_68 {h : mH} (hS : mSk h) : mT h 68 = 100 := (hS.1 (68, 100, 9) (by decide)).1
theorem skL_68 {h : mH} (hS : mSk h) : mL h 68 = 9 := (hS.1 (68, 100, 9) (by decide)).2
theorem skT_69 {h : mH} (hS : mSk h) : mT h 69 = 100 := (hS.1 (69, 100, 12) (by decide)).1
theorem skL_69 {h : mH} (hS : mSk h) : mL h 69 = 12 := (hS.1 (69, 100, 12) (by decide)).2
theorem skT_70 {h : mH} (hS : mSk h) : mT h 70 = 100 := (hS.1 (70, 100, 12) (by decide)).1
theorem skL_70 {h : mH} (hS : mSk h) : mL h 70 = 12 := (hS.1 (70, 100, 12) (by decide)).2
theorem skT_71 {h : mH} (hS : mSk h) : mT h 71 = 100 := (hS.1 (71, 100, 12) (by decide)).1
theorem skL_71 {h : mH} (hS : mSk h) : mL h 71 = 12 := (hS.1 (71, 100, 12) (by decide)).2
theorem skT_72 {h : mH} (hS : mSk h) : mT h 72 = 100 := (hS.1 (72, 100, 12) (by decide)).1
theorem skL_72 {h : mH} (hS : mSk h) : mL h 72 = 12 := (hS.1 (72, 100, 12) (by decide)).2
theorem skT_73 {h : mH} (hS : mSk h) : mT h 73 = 100 := (hS.1 (73, 100, 12) (by decide)).1
theorem skL_73 {h : mH} (hS : mSk h) : mL h 73 = 12 := (hS.1 (73, 100, 12) (by decide)).2
theorem skT_74 {h : mH} (hS : mSk h) : mT h 74 = 100 := (hS.1 (74, 100, 12) (by decide)).1
theorem skL_74 {h : mH} (hS : mSk h) : mL h 74 = 12 := (hS.1 (74, 100, 12) (by decide)).2
theorem skT_75 {h : mH} (hS : mSk h) : mT h 75 = 100 := (hS.1 (75, 100, 72) (by decide)).1
theorem skL_75 {h : mH} (hS : mSk h) : mL h 75 = 72 := (hS.1 (75, 100, 72) (by decide)).2
theorem skT_76 {h : mH} (hS : mSk h) : mT h 76 = 100 := (hS.1 (76, 100, 72) (by decide)).1
theorem skL_76 {h : mH} (hS : mSk h) : mL h 76 = 72 := (hS.1 (76, 100, 72) (by decide)).2
theorem skT_77 {h : mH} (hS : mSk h) : mT h 77 = 100 := (hS.1 (77, 100, 72) (by decide)).1
theorem skL_77 {h : mH} (hS : mSk h) : mL h 77 = 72 := (hS.1 (77, 100, 72) (by decide)).2
theorem skT_78 {h : mH} (hS : mSk h) : mT h 78 = 100 := (hS.1 (78, 100, 12288) (by decide)).1
theorem skL_78 {h : mH} (hS : mSk h) : mL h 78 = 12288 := (hS.1 (78, 100, 12288) (by decide)).2
theorem skT_79 {h : mH} (hS : mSk h) : mT h 79 = 100 := (hS.1 (79, 100, 12288) (by decide)).1
theorem skL_79 {h : mH} (hS : mSk h) : mL h 79 = 12288 := (hS.1 (79, 100, 12288) (by decide)).2
theorem skT_80 {h : mH} (hS : mSk h) : mT h 80 = 100 := (hS.1 (80, 100, 12288) (by decide)).1
theorem skL_80 {h : mH} (hS : mSk h) : mL h 80 = 12288 := (hS.1 (80, 100, 12288) (by decide)).2
theorem skT_81 {h : mH} (hS : mSk h) : mT h 81 = 100 := (hS.1 (81, 100, 6) (by decide)).1
theorem skL_81 {h : mH} (hS : mSk h) : mL h 81 = 6 := (hS.1 (81, 100, 6) (by decide)).2
theorem skT_82 {h : mH} (hS : mSk h) : mT h 82 = 100 := (hS.1 (82, 100, 6) (by decide)).1
theorem skL_82 {h : mH} (hS : mSk h) : mL h 82 = 6 := (hS.1 (82, 100, 6) (by decide)).2
theorem skT_83 {h : mH} (hS : mSk h) : mT h 83 = 100 := (hS.1 (83, 100, 6) (by decide)).1
theorem skL_83 {h : mH} (hS : mSk h) : mL h 83 = 6 := (hS.1 (83, 100, 6) (by decide)).2
theorem skT_84 {h : mH} (hS : mSk h) : mT h 84 = 100 := (hS.1 (84, 100, 8192) (by decide)).1
theorem skL_84 {h : mH} (hS : mSk h) : mL h 84 = 8192 := (hS.1 (84, 100, 8192) (by decide)).2
theorem skT_85 {h : mH} (hS : mSk h) : mT h 85 = 100 := (hS.1 (85, 100, 8192) (by decide)).1
theorem skL_85 {h : mH} (hS : mSk h) : mL h 85 = 8192 := (hS.1 (85, 100, 8192) (by decide)).2
theorem skT_86 {h : mH} (hS : mSk h) : mT h 86 = 100 := (hS.1 (86, 100, 65) (by decide)).1
theorem skL_86 {h : mH} (hS : mSk h) : mL h 86 = 65 := (hS.1 (86, 100, 65) (by decide)).2
theorem skT_87 {h : mH} (hS : mSk h) : mT h 87 = 100 := (hS.1 (87, 100, 25350) (by decide)).1
theorem skL_87 {h : mH} (hS : mSk h) : mL h 87 = 25350 := (hS.1 (87, 100, 25350) (by decide)).2
theorem skT_88 {h : mH} (hS : mSk h) : mT h 88 = 101 := (hS.1 (88, 101, 1024) (by decide)).1
theorem skL_88 {h : mH} (hS : mSk h) : mL h 88 = 1024 := (hS.1 (88, 101, 1024) (by decide)).2
theorem skT_89 {h : mH} (hS : mSk h) : mT h 89 = 100 := (hS.1 (89, 100, 4096) (by decide)).1
theorem skL_89 {h : mH} (hS : mSk h) : mL h 89 = 4096 := (hS.1 (89, 100, 4096) (by decide)).2
theorem skT_90 {h : mH} (hS : mSk h) : mT h 90 = 101 := (hS.1 (90, 101, 1024) (by decide)).1
theorem skL_90 {h : mH} (hS : mSk h) : mL h 90 = 1024 := (hS.1 (90, 101, 1024) (by decide)).2
theorem skT_91 {h : mH} (hS : mSk h) : mT h 91 = 101 := (hS.1 (91, 101, 1024) (by decide)).1
theorem skL_91 {h : mH} (hS : mSk h) : mL h 91 = 1024 := (hS.1 (91, 101, 1024) (by decide)).2
theorem skT_92 {h : mH} (hS : mSk h) : mT h 92 = 100 := (hS.1 (92, 100, 1024) (by decide)).1
theorem skL_92 {h : mH} (hS : mSk h) : mL h 92 = 1024 := (hS.1 (92, 100, 1024) (by decide)).2
theorem skT_93 {h : mH} (hS : mSk h) : mT h 93 = 100 := (hS.1 (93, 100, 160) (by decide)).1
theorem skL_93 {h : mH} (hS : mSk h) : mL h 93 = 160 := (hS.1 (93, 100, 160) (by decide)).2
theorem skR_8_0 {h : mH} (hS : mSk h) : mR h 8 0 = some 9 := hS.2.1 (8, 0, 9) (by decide)
theorem skR_8_1 {h : mH} (hS : mSk h) : mR h 8 1 = some 27 := hS.2.1 (8, 1, 27) (by decide)
theorem skR_8_2 {h : mH} (hS : mSk h) : mR h 8 2 = some 28 := hS.2.1 (8, 2, 28) (by decide)
theorem skR_8_3 {h : mH} (hS : mSk h) : mR h 8 3 = some 11 := hS.2.1 (8, 3, 11) (by decide)
theorem skR_8_4 {h : mH} (hS : mSk h) : mR h 8 4 = some 33 := hS.2.1 (8, 4, 33) (by decide)
theorem skR_8_5 {h : mH} (hS : mSk h) : mR h 8 5 = some 38 := hS.2.1 (8, 5, 38) (by decide)
theorem skR_8_6 {h : mH} (hS : mSk h) : mR h 8 6 = some 41 := hS.2.1 (8, 6, 41) (by decide)
theorem skR_9_0 {h : mH} (hS : mSk h) : mR h 9 0 = some 10 := hS.2.1 (9, 0, 10) (by decide)
theorem skR_11_0 {h : mH} (hS : mSk h) : mR h 11 0 = some 12 := hS.2.1 (11, 0, 12) (by decide)
theorem skR_11_1 {h : mH} (hS : mSk h) : mR h 11 1 = some 13 := hS.2.1 (11, 1, 13) (by decide)
theorem skR_11_2 {h : mH} (hS : mSk h) : mR h 11 2 = some 14 := hS.2.1 (11, 2, 14) (by decide)
theorem skR_11_3 {h : mH} (hS : mSk h) : mR h 11 3 = some 15 := hS.2.1 (11, 3, 15) (by decide)
theorem skR_11_7 {h : mH} (hS : mSk h) : mR h 11 7 = some 26 := hS.2.1 (11, 7, 26) (by decide)
theorem skR_27_0 {h : mH} (hS : mSk h) : mR h 27 0 = some 93 := hS.2.1 (27, 0, 93) (by decide)
theorem skR_28_0 {h : mH} (hS : mSk h) : mR h 28 0 = some 29 := hS.2.1 (28, 0, 29) (by decide)
theorem skR_28_6 {h : mH} (hS : mSk h) : mR h 28 6 = some 11 := hS.2.1 (28, 6, 11) (by decide)
theorem skR_28_7 {h : mH} (hS : mSk h) : mR h 28 7 = some 30 := hS.2.1 (28, 7, 30) (by decide)
theorem skR_28_8 {h : mH} (hS : mSk h) : mR h 28 8 = some 31 := hS.2.1 (28, 8, 31) (by decide)
theorem skR_28_9 {h : mH} (hS : mSk h) : mR h 28 9 = some 32 := hS.2.1 (28, 9, 32) (by decide)
theorem skR_33_0 {h : mH} (hS : mSk h) : mR h 33 0 = some 34 := hS.2.1 (33, 0, 34) (by decide)
theorem skR_33_3 {h : mH} (hS : mSk h) : mR h 33 3 = some 35 := hS.2.1 (33, 3, 35) (by decide)
theorem skR_33_4 {h : mH} (hS : mSk h) : mR h 33 4 = some 36 := hS.2.1 (33, 4, 36) (by decide)
theorem skR_33_5 {h : mH} (hS : mSk h) : mR h 33 5 = some 37 := hS.2.1 (33, 5, 37) (by decide)
theorem skR_38_0 {h : mH} (hS : mSk h) : mR h 38 0 = some 39 := hS.2.1 (38, 0, 39) (by decide)
theorem skR_38_1 {h : mH} (hS : mSk h) : mR h 38 1 = some 40 := hS.2.1 (38, 1, 40) (by decide)
theorem skR_41_0 {h : mH} (hS : mSk h) : mR h 41 0 = some 42 := hS.2.1 (41, 0, 42) (by decide)
theorem skR_41_1 {h : mH} (hS : mSk h) : mR h 41 1 = some 43 := hS.2.1 (41, 1, 43) (by decide)
theorem skR_41_2 {h : mH} (hS : mSk h) : mR h 41 2 = some 44 := hS.2.1 (41, 2, 44) (by decide)
theorem skR_41_10 {h : mH} (hS : mSk h) : mR h 41 10 = some 45 := hS.2.1 (41, 10, 45) (by decide)
theorem skR_41_11 {h : mH} (hS : mSk h) : mR h 41 11 = some 46 := hS.2.1 (41, 11, 46) (by decide)
theorem skR_47_1 {h : mH} (hS : mSk h) : mR h 47 1 = some 48 := hS.2.1 (47, 1, 48) (by decide)
theorem skR_47_2 {h : mH} (hS : mSk h) : mR h 47 2 = some 49 := hS.2.1 (47, 2, 49) (by decide)
theorem skR_47_3 {h : mH} (hS : mSk h) : mR h 47 3 = some 50 := hS.2.1 (47, 3, 50) (by decide)
theorem skR_47_4 {h : mH} (hS : mSk h) : mR h 47 4 = some 51 := hS.2.1 (47, 4, 51) (by decide)
theorem skR_47_5 {h : mH} (hS : mSk h) : mR h 47 5 = some 52 := hS.2.1 (47, 5, 52) (by decide)
theorem skR_47_7 {h : mH} (hS : mSk h) : mR h 47 7 = some 53 := hS.2.1 (47, 7, 53) (by decide)
theorem skR_47_8 {h : mH} (hS : mSk h) : mR h 47 8 = some 54 := hS.2.1 (47, 8, 54) (by decide)
theorem skR_47_9 {h : mH} (hS : mSk h) : mR h 47 9 = some 55 := hS.2.1 (47, 9, 55) (by decide)
theorem skR_47_10 {h : mH} (hS : mSk h) : mR h 47 10 = some 56 := hS.2.1 (47, 10, 56) (by decide)
theorem skR_47_11 {h : mH} (hS : mSk h) : mR h 47 11 = some 57 := hS.2.1 (47, 11, 57) (by decide)
theorem skR_47_22 {h : mH} (hS : mSk h) : mR h 47 22 = some 58 := hS.2.1 (47, 22, 58) (by decide)
theorem skR_47_23 {h : mH} (hS : mSk h) : mR h 47 23 = some 59 := hS.2.1 (47, 23, 59) (by decide)
theorem skR_47_24 {h : mH} (hS : mSk h) : mR h 47 24 = some 60 := hS.2.1 (47, 24, 60) (by decide)
theorem skR_47_25 {h : mH} (hS : mSk h) : mR h 47 25 = some 61 := hS.2.1 (47, 25, 61) (by decide)
theorem skR_47_26 {h : mH} (hS : mSk h) : mR h 47 26 = some 62 := hS.2.1 (47, 26, 62) (by decide)
theorem skR_47_27 {h : mH} (hS : mSk h) : mR h 47 27 = some 63 := hS.2.1 (47, 27, 63) (by decide)
theorem skR_47_28 {h : mH} (hS : mSk h) : mR h 47 28 = some 64 := hS.2.1 (47, 28, 64) (by decide)
theorem skR_47_29 {h : mH} (hS : mSk h) : mR h 47 29 = some 65 := hS.2.1 (47, 29, 65) (by decide)
theorem skR_47_30 {h : mH} (hS : mSk h) : mR h 47 30 = some 66 := hS.2.1 (47, 30, 66) (by decide)
theorem skR_47_31 {h : mH} (hS : mSk h) : mR h 47 31 = some 67 := hS.2.1 (47, 31, 67) (by decide)
theorem skR_47_32 {h : mH} (hS : mSk h) : mR h 47 32 = some 68 := hS.2.1 (47, 32, 68) (by decide)
theorem skR_47_39 {h : mH} (hS : mSk h) : mR h 47 39 = some 69 := hS.2.1 (47, 39, 69) (by decide)
theorem skR_47_40 {h : mH} (hS : mSk h) : mR h 47 40 = some 70 := hS.2.1 (47, 40, 70) (by decide)
theorem skR_47_41 {h : mH} (hS : mSk h) : mR h 47 41 = some 71 := hS.2.1 (47, 41, 71) (by decide)
theorem skR_47_42 {h : mH} (hS : mSk h) : mR h 47 42 = some 72 := hS.2.1 (47, 42, 72) (by decide)
theorem skR_47_43 {h : mH} (hS : mSk h) : mR h 47 43 = some 73 := hS.2.1 (47, 43, 73) (by decide)
theorem skR_47_44 {h : mH} (hS : mSk h) : mR h 47 44 = some 74 := hS.2.1 (47, 44, 74) (by decide)
theorem skR_47_45 {h : mH} (hS : mSk h) : mR h 47 45 = some 75 := hS.2.1 (47, 45, 75) (by decide)
theorem skR_47_46 {h : mH} (hS : mSk h) : mR h 47 46 = some 76 := hS.2.1 (47, 46, 76) (by decide)
theorem skR_47_47 {h : mH} (hS : mSk h) : mR h 47 47 = some 77 := hS.2.1 (47, 47, 77) (by decide)
theorem skR_47_48 {h : mH} (hS : mSk h) : mR h 47 48 = some 78 := hS.2.1 (47, 48, 78) (by decide)
theorem skR_47_49 {h : mH} (hS : mSk h) : mR h 47 49 = some 79 := hS.2.1 (47, 49, 79) (by decide)
theorem skR_47_50 {h : mH} (hS : mSk h) : mR h 47 50 = some 80 := hS.2.1 (47, 50, 80) (by decide)
theorem skR_47_54 {h : mH} (hS : mSk h) : mR h 47 54 = some 81 := hS.2.1 (47, 54, 81) (by decide)
theorem skR_47_55 {h : mH} (hS : mSk h) : mR h 47 55 = some 82 := hS.2.1 (47, 55, 82) (by decide)
theorem skR_47_56 {h : mH} (hS : mSk h) : mR h 47 56 = some 83 := hS.2.1 (47, 56, 83) (by decide)
theorem skR_47_57 {h : mH} (hS : mSk h) : mR h 47 57 = some 84 := hS.2.1 (47, 57, 84) (by decide)
theorem skR_47_58 {h : mH} (hS : mSk h) : mR h 47 58 = some 85 := hS.2.1 (47, 58, 85) (by decide)
theorem skR_47_59 {h : mH} (hS : mSk h) : mR h 47 59 = some 86 := hS.2.1 (47, 59, 86) (by decide)
theorem skR_47_60 {h : mH} (hS : mSk h) : mR h 47 60 = some 87 := hS.2.1 (47, 60, 87) (by decide)
theorem skR_47_61 {h : mH} (hS : mSk h) : mR h 47 61 = some 88 := hS.2.1 (47, 61, 88) (by decide)
theorem skR_47_62 {h : mH} (hS : mSk h) : mR h 47 62 = some 89 := hS.2.1 (47, 62, 89) (by decide)
theorem skR_47_63 {h : mH} (hS : mSk h) : mR h 47 63 = some 90 := hS.2.1 (47, 63, 90) (by decide)
theorem skR_47_64 {h : mH} (hS : mSk h) : mR h 47 64 = some 91 := hS.2.1 (47, 64, 91) (by decide)
theorem skR_47_65 {h : mH} (hS : mSk h) : mR h 47 65 = some 92 := hS.2.1 (47, 65, 92) (by decide)
theorem skTA_8 {h : mH} (hS : mSkA h) : mT h 8 = 12 := (hS.1 (8, 12, 0) (by decide)).1
theorem skTA_9 {h : mH} (hS : mSkA h) : mT h 9 = 10 := (hS.1 (9, 10, 0) (by decide)).1
theorem skTA_11 {h : mH} (hS : mSkA h) : mT h 11 = 3 := (hS.1 (11, 3, 0) (by decide)).1
theorem skTA_16 {h : mH} (hS : mSkA h) : mT h 16 = 4 := (hS.1 (16, 4, 0) (by decide)).1
theorem skTA_21 {h : mH} (hS : mSkA h) : mT h 21 = 4 := (hS.1 (21, 4, 0) (by decide)).1
theorem skTA_27 {h : mH} (hS : mSkA h) : mT h 27 = 5 := (hS.1 (27, 5, 0) (by decide)).1
theorem skTA_28 {h : mH} (hS : mSkA h) : mT h 28 = 7 := (hS.1 (28, 7, 0) (by decide)).1
theorem skTA_33 {h : mH} (hS : mSkA h) : mT h 33 = 1 := (hS.1 (33, 1, 0) (by decide)).1
theorem skTA_38 {h : mH} (hS : mSkA h) : mT h 38 = 11 := (hS.1 (38, 11, 0) (by decide)).1
theorem skTA_41 {h : mH} (hS : mSkA h) : mT h 41 = 9 := (hS.1 (41, 9, 0) (by decide)).1
theorem skTA_47 {h : mH} (hS : mSkA h) : mT h 47 = 13 := (hS.1 (47, 13, 0) (by decide)).1
theorem skRA_8_0 {h : mH} (hS : mSkA h) : mR h 8 0 = some 9 := hS.2 (8, 0, 9) (by decide)
theorem skRA_8_1 {h : mH} (hS : mSkA h) : mR h 8 1 = some 27 := hS.2 (8, 1, 27) (by decide)
theorem skRA_8_2 {h : mH} (hS : mSkA h) : mR h 8 2 = some 28 := hS.2 (8, 2, 28) (by decide)
theorem skRA_8_3 {h : mH} (hS : mSkA h) : mR h 8 3 = some 11 := hS.2 (8, 3, 11) (by decide)
theorem skRA_8_4 {h : mH} (hS : mSkA h) : mR h 8 4 = some 33 := hS.2 (8, 4, 33) (by decide)
theorem skRA_8_5 {h : mH} (hS : mSkA h) : mR h 8 5 = some 38 := hS.2 (8, 5, 38) (by decide)
theorem skRA_8_6 {h : mH} (hS : mSkA h) : mR h 8 6 = some 41 := hS.2 (8, 6, 41) (by decide)
theorem skRA_9_0 {h : mH} (hS : mSkA h) : mR h 9 0 = some 10 := hS.2 (9, 0, 10) (by decide)
theorem skRA_11_0 {h : mH} (hS : mSkA h) : mR h 11 0 = some 12 := hS.2 (11, 0, 12) (by decide)
theorem skRA_11_1 {h : mH} (hS : mSkA h) : mR h 11 1 = some 13 := hS.2 (11, 1, 13) (by decide)
theorem skRA_11_2 {h : mH} (hS : mSkA h) : mR h 11 2 = some 14 := hS.2 (11, 2, 14) (by decide)
theorem skRA_11_3 {h : mH} (hS : mSkA h) : mR h 11 3 = some 15 := hS.2 (11, 3, 15) (by decide)
theorem skRA_11_7 {h : mH} (hS : mSkA h) : mR h 11 7 = some 26 := hS.2 (11, 7, 26) (by decide)
theorem skRA_27_0 {h : mH} (hS : mSkA h) : mR h 27 0 = some 93 := hS.2 (27, 0, 93) (by decide)
theorem skRA_28_0 {h : mH} (hS : mSkA h) : mR h 28 0 = some 29 := hS.2 (28, 0, 29) (by decide)
theorem skRA_28_6 {h : mH} (hS : mSkA h) : mR h 28 6 = some 11 := hS.2 (28, 6, 11) (by decide)
theorem skRA_28_7 {h : mH} (hS : mSkA h) : mR h 28 7 = some 30 := hS.2 (28, 7, 30) (by decide)
theorem skRA_28_8 {h : mH} (hS : mSkA h) : mR h 28 8 = some 31 := hS.2 (28, 8, 31) (by decide)
theorem skRA_28_9 {h : mH} (hS : mSkA h) : mR h 28 9 = some 32 := hS.2 (28, 9, 32) (by decide)
theorem skRA_33_0 {h : mH} (hS : mSkA h) : mR h 33 0 = some 34 := hS.2 (33, 0, 34) (by decide)
theorem skRA_33_3 {h : mH} (hS : mSkA h) : mR h 33 3 = some 35 := hS.2 (33, 3, 35) (by decide)
theorem skRA_33_4 {h : mH} (hS : mSkA h) : mR h 33 4 = some 36 := hS.2 (33, 4, 36) (by decide)
theorem skRA_33_5 {h : mH} (hS : mSkA h) : mR h 33 5 = some 37 := hS.2 (33, 5, 37) (by decide)
theorem skRA_38_0 {h : mH} (hS : mSkA h) : mR h 38 0 = some 39 := hS.2 (38, 0, 39) (by decide)
theorem skRA_38_1 {h : mH} (hS : mSkA h) : mR h 38 1 = some 40 := hS.2 (38, 1, 40) (by decide)
theorem skRA_41_0 {h : mH} (hS : mSkA h) : mR h 41 0 = some 42 := hS.2 (41, 0, 42) (by decide)
theorem skRA_41_1 {h : mH} (hS : mSkA h) : mR h 41 1 = some 43 := hS.2 (41, 1, 43) (by decide)
theorem skRA_41_2 {h : mH} (hS : mSkA h) : mR h 41 2 = some 44 := hS.2 (41, 2, 44) (by decide)
theorem skRA_41_10 {h : mH} (hS : mSkA h) : mR h 41 10 = some 45 := hS.2 (41, 10, 45) (by decide)
theorem skRA_41_11 {h : mH} (hS : mSkA h) : mR h 41 11 = some 46 := hS.2 (41, 11, 46) (by decide)
theorem skRA_47_1 {h : mH} (hS : mSkA h) : mR h 47 1 = some 48 := hS.2 (47, 1, 48) (by decide)
theorem skRA_47_2 {h : mH} (hS : mSkA h) : mR h 47 2 = some 49 := hS.2 (47, 2, 49) (by decide)
theorem skRA_47_3 {h : mH} (hS : mSkA h) : mR h 47 3 = some 50 := hS.2 (47, 3, 50) (by decide)
theorem skRA_47_4 {h : mH} (hS : mSkA h) : mR h 47 4 = some 51 := hS.2 (47, 4, 51) (by decide)
theorem skRA_47_5 {h : mH} (hS : mSkA h) : mR h 47 5 = some 52 := hS.2 (47, 5, 52) (by decide)
theorem skRA_47_7 {h : mH} (hS : mSkA h) : mR h 47 7 = some 53 := hS.2 (47, 7, 53) (by decide)
theorem skRA_47_8 {h : mH} (hS : mSkA h) : mR h 47 8 = some 54 := hS.2 (47, 8, 54) (by decide)
theorem skRA_47_9 {h : mH} (hS : mSkA h) : mR h 47 9 = some 55 := hS.2 (47, 9, 55) (by decide)
theorem skRA_47_10 {h : mH} (hS : mSkA h) : mR h 47 10 = some 56 := hS.2 (47, 10, 56) (by decide)
theorem skRA_47_11 {h : mH} (hS : mSkA h) : mR h 47 11 = some 57 := hS.2 (47, 11, 57) (by decide)
theorem skRA_47_22 {h : mH} (hS : mSkA h) : mR h 47 22 = some 58 := hS.2 (47, 22, 58) (by decide)
theorem skRA_47_23 {h : mH} (hS : mSkA h) : mR h 47 23 = some 59 := hS.2 (47, 23, 59) (by decide)
theorem skRA_47_24 {h : mH} (hS : mSkA h) : mR h 47 24 = some 60 := hS.2 (47, 24, 60) (by decide)
theorem skRA_47_25 {h : mH} (hS : mSkA h) : mR h 47 25 = some 61 := hS.2 (47, 25, 61) (by decide)
theorem skRA_47_26 {h : mH} (hS : mSkA h) : mR h 47 26 = some 62 := hS.2 (47, 26, 62) (by decide)
theorem skRA_47_27 {h : mH} (hS : mSkA h) : mR h 47 27 = some 63 := hS.2 (47, 27, 63) (by decide)
theorem skRA_47_28 {h : mH} (hS : mSkA h) : mR h 47 28 = some 64 := hS.2 (47, 28, 64) (by decide)
theorem skRA_47_29 {h : mH} (hS : mSkA h) : mR h 47 29 = some 65 := hS.2 (47, 29, 65) (by decide)
theorem skRA_47_30 {h : mH} (hS : mSkA h) : mR h 47 30 = some 66 := hS.2 (47, 30, 66) (by decide)
theorem skRA_47_31 {h : mH} (hS : mSkA h) : mR h 47 31 = some 67 := hS.2 (47, 31, 67) (by decide)
theorem skRA_47_32 {h : mH} (hS : mSkA h) : mR h 47 32 = some 68 := hS.2 (47, 32, 68) (by decide)
theorem skRA_47_39 {h : mH} (hS : mSkA h) : mR h 47 39 = some 69 := hS.2 (47, 39, 69) (by decide)
theorem skRA_47_40 {h : mH} (hS : mSkA h) : mR h 47 40 = some 70 := hS.2 (47, 40, 70) (by decide)
theorem skRA_47_41 {h : mH} (hS : mSkA h) : mR h 47 41 = some 71 := hS.2 (47, 41, 71) (by decide)
theorem skRA_47_42 {h : mH} (hS : mSkA h) : mR h 47 42 = some 72 := hS.2 (47, 42, 72) (by decide)
theorem skRA_47_43 {h : mH} (hS : mSkA h) : mR h 47 43 = some 73 := hS.2 (47, 43, 73) (by decide)
theorem skRA_47_44 {h : mH} (hS : mSkA h) : mR h 47 44 = some 74 := hS.2 (47, 44, 74) (by decide)
theorem skRA_47_45 {h : mH} (hS : mSkA h) : mR h 47 45 = some 75 := hS.2 (47, 45, 75) (by decide)
theorem skRA_47_46 {h : mH} (hS : mSkA h) : mR h 47 46 = some 76 := hS.2 (47, 46, 76) (by decide)
theorem skRA_47_47 {h : mH} (hS : mSkA h) : mR h 47 47 = some 77 := hS.2 (47, 47, 77) (by decide)
theorem skRA_47_48 {h : mH} (hS : mSkA h) : mR h 47 48 = some 78 := hS.2 (47, 48, 78) (by decide)
theorem skRA_47_49 {h : mH} (hS : mSkA h) : mR h 47 49 = some 79 := hS.2 (47, 49, 79) (by decide)
theorem skRA_47_50 {h : mH} (hS : mSkA h) : mR h 47 50 = some 80 := hS.2 (47, 50, 80) (by decide)
theorem skRA_47_54 {h : mH} (hS : mSkA h) : mR h 47 54 = some 81 := hS.2 (47, 54, 81) (by decide)
theorem skRA_47_55 {h : mH} (hS : mSkA h) : mR h 47 55 = some 82 := hS.2 (47, 55, 82) (by decide)
theorem skRA_47_56 {h : mH} (hS : mSkA h) : mR h 47 56 = some 83 := hS.2 (47, 56, 83) (by decide)
theorem skRA_47_57 {h : mH} (hS : mSkA h) : mR h 47 57 = some 84 := hS.2 (47, 57, 84) (by decide)
theorem skRA_47_58 {h : mH} (hS : mSkA h) : mR h 47 58 = some 85 := hS.2 (47, 58, 85) (by decide)
theorem skRA_47_59 {h : mH} (hS : mSkA h) : mR h 47 59 = some 86 := hS.2 (47, 59, 86) (by decide)
theorem skRA_47_60 {h : mH} (hS : mSkA h) : mR h 47 60 = some 87 := hS.2 (47, 60, 87) (by decide)
theorem skRA_47_61 {h : mH} (hS : mSkA h) : mR h 47 61 = some 88 := hS.2 (47, 61, 88) (by decide)
theorem skRA_47_62 {h : mH} (hS : mSkA h) : mR h 47 62 = some 89 := hS.2 (47, 62, 89) (by decide)
theorem skRA_47_63 {h : mH} (hS : mSkA h) : mR h 47 63 = some 90 := hS.2 (47, 63, 90) (by decide)
theorem skRA_47_64 {h : mH} (hS : mSkA h) : mR h 47 64 = some 91 := hS.2 (47, 64, 91) (by decide)
theorem skRA_47_65 {h : mH} (hS : mSkA h) : mR h 47 65 = some 92 := hS.2 (47, 65, 92) (by decide)
theorem skBT_1_6 {h : mH} (hS : mSk h) {a : Nat} (ha : mT h a = 2) : mT h (a + 6) = 100 := (hS.2.2.2.1 (2, 6, 100, 16) (by decide) a ha).1
theorem skBL_1_6 {h : mH} (hS : mSk h) {a : Nat} (ha : mT h a = 2) : mL h (a + 6) = 16 := (hS.2.2.2.1 (2, 6, 100, 16) (by decide) a ha).2
theorem skBT_1_7 {h : mH} (hS : mSk h) {a : Nat} (ha : mT h a = 2) : mT h (a + 7) = 100 := (hS.2.2.2.1 (2, 7, 100, 16) (by decide) a ha).1
theorem skBL_1_7 {h : mH} (hS : mSk h) {a : Nat} (ha : mT h a = 2) : mL h (a + 7) = 16 := (hS.2.2.2.1 (2, 7, 100, 16) (by decide) a ha).2
theorem skBT_1_8 {h : mH} (hS : mSk h) {a : Nat} (ha : mT h a = 2) : mT h (a + 8) = 100 := (hS.2.2.2.1 (2, 8, 100, 16) (by decide) a ha).1
theorem skBL_1_8 {h : mH} (hS : mSk h) {a : Nat} (ha : mT h a = 2) : mL h (a + 8) = 16 := (hS.2.2.2.1 (2, 8, 100, 16) (by decide) a ha).2
theorem skBT_1_1 {h : mH} (hS : mSk h) {a : Nat} (ha : mT h a = 2) : mT h (a + 1) = 100 := (hS.2.2.2.1 (2, 1, 100, 32) (by decide) a ha).1
theorem skBL_1_1 {h : mH} (hS : mSk h) {a : Nat} (ha : mT h a = 2) : mL h (a + 1) = 32 := (hS.2.2.2.1 (2, 1, 100, 32) (by decide) a ha).2
theorem skBT_1_2 {h : mH} (hS : mSk h) {a : Nat} (ha : mT h a = 2) : mT h (a + 2) = 100 := (hS.2.2.2.1 (2, 2, 100, 32) (by decide) a ha).1
theorem skBL_1_2 {h : mH} (hS : mSk h) {a : Nat} (ha : mT h a = 2) : mL h (a + 2) = 32 := (hS.2.2.2.1 (2, 2, 100, 32) (by decide) a ha).2
theorem skBT_1_3 {h : mH} (hS : mSk h) {a : Nat} (ha : mT h a = 2) : mT h (a + 3) = 100 := (hS.2.2.2.1 (2, 3, 100, 4096) (by decide) a ha).1
theorem skBL_1_3 {h : mH} (hS : mSk h) {a : Nat} (ha : mT h a = 2) : mL h (a + 3) = 4096 := (hS.2.2.2.1 (2, 3, 100, 4096) (by decide) a ha).2
theorem skBT_1_4 {h : mH} (hS : mSk h) {a : Nat} (ha : mT h a = 2) : mT h (a + 4) = 101 := (hS.2.2.2.1 (2, 4, 101, 4) (by decide) a ha).1
theorem skBL_1_4 {h : mH} (hS : mSk h) {a : Nat} (ha : mT h a = 2) : mL h (a + 4) = 4 := (hS.2.2.2.1 (2, 4, 101, 4) (by decide) a ha).2
theorem skBT_1_5 {h : mH} (hS : mSk h) {a : Nat} (ha : mT h a = 2) : mT h (a + 5) = 100 := (hS.2.2.2.1 (2, 5, 100, 1536) (by decide) a ha).1
theorem skBL_1_5 {h : mH} (hS : mSk h) {a : Nat} (ha : mT h a = 2) : mL h (a + 5) = 1536 := (hS.2.2.2.1 (2, 5, 100, 1536) (by decide) a ha).2
theorem skBT_3_1 {h : mH} (hS : mSk h) {a : Nat} (ha : mT h a = 4) : mT h (a + 1) = 100 := (hS.2.2.2.1 (4, 1, 100, 160) (by decide) a ha).1
theorem skBL_3_1 {h : mH} (hS : mSk h) {a : Nat} (ha : mT h a = 4) : mL h (a + 1) = 160 := (hS.2.2.2.1 (4, 1, 100, 160) (by decide) a ha).2
theorem skBT_3_2 {h : mH} (hS : mSk h) {a : Nat} (ha : mT h a = 4) : mT h (a + 2) = 100 := (hS.2.2.2.1 (4, 2, 100, 13) (by decide) a ha).1
theorem skBL_3_2 {h : mH} (hS : mSk h) {a : Nat} (ha : mT h a = 4) : mL h (a + 2) = 13 := (hS.2.2.2.1 (4, 2, 100, 13) (by decide) a ha).2
theorem skBT_3_3 {h : mH} (hS : mSk h) {a : Nat} (ha : mT h a = 4) : mT h (a + 3) = 100 := (hS.2.2.2.1 (4, 3, 100, 12) (by decide) a ha).1
theorem skBL_3_3 {h : mH} (hS : mSk h) {a : Nat} (ha : mT h a = 4) : mL h (a + 3) = 12 := (hS.2.2.2.1 (4, 3, 100, 12) (by decide) a ha).2
theorem skBT_3_4 {h : mH} (hS : mSk h) {a : Nat} (ha : mT h a = 4) : mT h (a + 4) = 100 := (hS.2.2.2.1 (4, 4, 100, 20) (by decide) a ha).1
theorem skBL_3_4 {h : mH} (hS : mSk h) {a : Nat} (ha : mT h a = 4) : mL h (a + 4) = 20 := (hS.2.2.2.1 (4, 4, 100, 20) (by decide) a ha).2
theorem skBT_5_1 {h : mH} (hS : mSk h) {a : Nat} (ha : mT h a = 6) : mT h (a + 1) = 112 := (hS.2.2.2.1 (6, 1, 112, 6) (by decide) a ha).1
theorem skBL_5_1 {h : mH} (hS : mSk h) {a : Nat} (ha : mT h a = 6) : mL h (a + 1) = 6 := (hS.2.2.2.1 (6, 1, 112, 6) (by decide) a ha).2
theorem skBT_7_1 {h : mH} (hS : mSk h) {a : Nat} (ha : mT h a = 8) : mT h (a + 1) = 100 := (hS.2.2.2.1 (8, 1, 100, 256) (by decide) a ha).1
theorem skBL_7_1 {h : mH} (hS : mSk h) {a : Nat} (ha : mT h a = 8) : mL h (a + 1) = 256 := (hS.2.2.2.1 (8, 1, 100, 256) (by decide) a ha).2
theorem skBT_7_2 {h : mH} (hS : mSk h) {a : Nat} (ha : mT h a = 8) : mT h (a + 2) = 100 := (hS.2.2.2.1 (8, 2, 100, 256) (by decide) a ha).1
theorem skBL_7_2 {h : mH} (hS : mSk h) {a : Nat} (ha : mT h a = 8) : mL h (a + 2) = 256 := (hS.2.2.2.1 (8, 2, 100, 256) (by decide) a ha).2
theorem skBR_1_2 {h : mH} (hS : mSk h) {a : Nat} (ha : mT h a = 2) : mR h a 2 = some (a + 6) := hS.2.2.2.2 (2, 2, 6) (by decide) a ha
theorem skBR_1_3 {h : mH} (hS : mSk h) {a : Nat} (ha : mT h a = 2) : mR h a 3 = some (a + 7) := hS.2.2.2.2 (2, 3, 7) (by decide) a ha
theorem skBR_1_4 {h : mH} (hS : mSk h) {a : Nat} (ha : mT h a = 2) : mR h a 4 = some (a + 8) := hS.2.2.2.2 (2, 4, 8) (by decide) a ha
theorem skBR_1_5 {h : mH} (hS : mSk h) {a : Nat} (ha : mT h a = 2) : mR h a 5 = some (a + 1) := hS.2.2.2.2 (2, 5, 1) (by decide) a ha
theorem skBR_1_6 {h : mH} (hS : mSk h) {a : Nat} (ha : mT h a = 2) : mR h a 6 = some (a + 2) := hS.2.2.2.2 (2, 6, 2) (by decide) a ha
theorem skBR_1_7 {h : mH} (hS : mSk h) {a : Nat} (ha : mT h a = 2) : mR h a 7 = some (a + 3) := hS.2.2.2.2 (2, 7, 3) (by decide) a ha
theorem skBR_1_8 {h : mH} (hS : mSk h) {a : Nat} (ha : mT h a = 2) : mR h a 8 = some (a + 4) := hS.2.2.2.2 (2, 8, 4) (by decide) a ha
theorem skBR_1_9 {h : mH} (hS : mSk h) {a : Nat} (ha : mT h a = 2) : mR h a 9 = some (a + 5) := hS.2.2.2.2 (2, 9, 5) (by decide) a ha
theorem skBR_3_0 {h : mH} (hS : mSk h) {a : Nat} (ha : mT h a = 4) : mR h a 0 = some (a + 1) := hS.2.2.2.2 (4, 0, 1) (by decide) a ha
theorem skBR_3_1 {h : mH} (hS : mSk h) {a : Nat} (ha : mT h a = 4) : mR h a 1 = some (a + 2) := hS.2.2.2.2 (4, 1, 2) (by decide) a ha
theorem skBR_3_2 {h : mH} (hS : mSk h) {a : Nat} (ha : mT h a = 4) : mR h a 2 = some (a + 3) := hS.2.2.2.2 (4, 2, 3) (by decide) a ha
theorem skBR_3_3 {h : mH} (hS : mSk h) {a : Nat} (ha : mT h a = 4) : mR h a 3 = some (a + 4) := hS.2.2.2.2 (4, 3, 4) (by decide) a ha
theorem skBR_5_6 {h : mH} (hS : mSk h) {a : Nat} (ha : mT h a = 6) : mR h a 6 = some (a + 1) := hS.2.2.2.2 (6, 6, 1) (by decide) a ha
theorem skBR_7_4 {h : mH} (hS : mSk h) {a : Nat} (ha : mT h a = 8) : mR h a 4 = some (a + 1) := hS.2.2.2.2 (8, 4, 1) (by decide) a ha
theorem skBR_7_5 {h : mH} (hS : mSk h) {a : Nat} (ha : mT h a = 8) : mR h a 5 = some (a + 2) := hS.2.2.2.2 (8, 5, 2) (by decide) a ha
/-! words for numbers, and rows with the skeleton -/
def m_shl (x y : Int32) : Int32 := x <<< (y &&& 31)
def m_shr (x y : Int32) : Int32 := x >>> (y &&& 31)
def m_ushr (x y : Int32) : Int32 := (x.toUInt32 >>> (y.toUInt32 &&& Int32.toUInt32 31)).toInt32
def m_rem (x y : Int32) : Int32 := x - x / y * y
def m_not (x : Int32) : Int32 := x ^^^ (-1)
def m_bool (x : Int32) : Prop := x = 0 ∨ x = 1
theorem m_boolN {x : Int32} (h : m_bool x) : narrow .boolean (.int x) = .int x := by rcases h with rfl | rfl <;> rfl
theorem m_boolP {x : Int32} (h : m_bool x) : narrow .boolean (.int x) = .int x ∧ fits .boolean (.int x) = true := by rcases h with rfl | rfl <;> exact ⟨rfl, rfl⟩
theorem m_boolI {c : Prop} [Decidable c] {x y : Int32} (hx : m_bool x) (hy : m_bool y) : m_bool (if c then x else y) := by split <;> assumption
theorem m_bool0 : m_bool 0 := Or.inl rfl
theorem m_bool1 : m_bool 1 := Or.inr rfl
theorem m_sw {x c : Int32} (h : x.toInt = c.toInt) : x = c := Int32.toInt_inj.mp h
theorem mC_mono {G : mG} {k : mM} {d : Nat} {b : Nat × Nat} {av : List mV} {h : mH} {Q1 Q2 : Option mV → mH → Prop} (hq : ∀ r h', Q1 r h' → Q2 r h') (c : mC G k d b av h Q1) : mC G k d b av h Q2 := by
  intro p e ha hc hk s m args below hf happ hP hK
  obtain ⟨n, o, h1, h2, h3, ⟨⟨r, h', e1, e2, e3⟩, e4⟩, e5⟩ := c p e ha hc hk s m args below hf happ hP hK
  exact ⟨n, o, h1, h2, h3, ⟨⟨r, h', e1, hq _ _ e2, e3⟩, e4⟩, e5⟩
section
variable {G : mG} {k : mM} {d : Nat} {b : Nat × Nat} {pc pc' : Nat} {ls : List (Option mV)} {st : List mV} {h : mH} {Q : Option mV → mH → Prop}
theorem mw_weak {ls' : List (Option mV)} (hl : ∀ (i : Nat) (v : mV), ls'[i]? = some (some v) → ls[i]? = some (some v)) (kk : mW G k d b pc ls' st h Q) : mW G k d b pc ls st h Q := by
  intro p e s m args below meth c R Z C hQ H locs cells slots LS hA
  exact kk p e s m args below meth c R Z C hQ _ _ _ _ _ ⟨hA.1, hA.2.1, hA.2.2.1, hA.2.2.2.1, hA.2.2.2.2.1, fun i v hv => hA.2.2.2.2.2 i v (hl i v hv)⟩
theorem mw_ishlM {x y : Int32} (hd : decode k.2.1 pc = .ok (.ishl, 1)) (hp : pc + 1 = pc') (kk : mW G k d b pc' ls (.inl (m_shl x y) :: st) h Q) : mW G k d b pc ls (.inl y :: .inl x :: st) h Q := mw_ishl hd hp kk
theorem mw_ishrM {x y : Int32} (hd : decode k.2.1 pc = .ok (.ishr, 1)) (hp : pc + 1 = pc') (kk : mW G k d b pc' ls (.inl (m_shr x y) :: st) h Q) : mW G k d b pc ls (.inl y :: .inl x :: st) h Q := mw_ishr hd hp kk
theorem mw_iushrM {x y : Int32} (hd : decode k.2.1 pc = .ok (.iushr, 1)) (hp : pc + 1 = pc') (kk : mW G k d b pc' ls (.inl (m_ushr x y) :: st) h Q) : mW G k d b pc ls (.inl y :: .inl x :: st) h Q := mw_iushr hd hp kk
theorem mw_iremM {x y : Int32} (hd : decode k.2.1 pc = .ok (.irem, 1)) (hp : pc + 1 = pc') (hn : ¬ y = 0) (kk : mW G k d b pc' ls (.inl (m_rem x y) :: st) h Q) : mW G k d b pc ls (.inl y :: .inl x :: st) h Q := mw_irem hd hp hn kk
theorem mw_ixorM {x : Int32} (hd : decode k.2.1 pc = .ok (.ixor, 1)) (hp : pc + 1 = pc') (kk : mW G k d b pc' ls (.inl (m_not x) :: st) h Q) : mW G k d b pc ls (.inl (-1) :: .inl x :: st) h Q := mw_ixor hd hp kk
theorem mw_ialdL {a n : Nat} {i : Int32} (hd : decode k.2.1 pc = .ok (.iaload, 1)) (hp : pc + 1 = pc') (ha : mT h a = 100) (hl : mL h a = n) (hi : vp_in i n) (kk : mW G k d b pc' ls (.inl (mI h a i.toNatClampNeg) :: st) h Q) : mW G k d b pc ls (.inl i :: .inr (some a) :: st) h Q := mw_iald hd hp ha (by rw [hl]; exact hi) kk
theorem mw_baldL {a n : Nat} {i : Int32} (hd : decode k.2.1 pc = .ok (.baload, 1)) (hp : pc + 1 = pc') (ha : mT h a = 101) (hl : mL h a = n) (hi : vp_in i n) (kk : mW G k d b pc' ls (.inl (mI h a i.toNatClampNeg) :: st) h Q) : mW G k d b pc ls (.inl i :: .inr (some a) :: st) h Q := mw_bald hd hp ha (by rw [hl]; exact hi) kk
theorem mw_yaldL {a n : Nat} {i : Int32} (hd : decode k.2.1 pc = .ok (.baload, 1)) (hp : pc + 1 = pc') (ha : mT h a = 105) (hl : mL h a = n) (hi : vp_in i n) (kk : mW G k d b pc' ls (.inl (mI h a i.toNatClampNeg) :: st) h Q) : mW G k d b pc ls (.inl i :: .inr (some a) :: st) h Q := mw_yald hd hp ha (by rw [hl]; exact hi) kk
theorem mw_aaldL {a n t : Nat} {i : Int32} (hd : decode k.2.1 pc = .ok (.aaload, 1)) (hp : pc + 1 = pc') (ht : t < 3) (ha : mT h a = 110 + t) (hl : mL h a = n) (hi : vp_in i n) (kk : mW G k d b pc' ls (.inr (mR h a i.toNatClampNeg) :: st) h Q) : mW G k d b pc ls (.inl i :: .inr (some a) :: st) h Q := mw_aald hd hp ht ha (by rw [hl]; exact hi) kk
theorem mw_iastK {a n : Nat} {i x : Int32} (hd : decode k.2.1 pc = .ok (.iastore, 1)) (hp : pc + 1 = pc') (ha : mT h a = 100) (hl : mL h a = n) (hi : vp_in i n) (hS : mSk h) (kk : ∀ h', h' = mSI h a i.toNatClampNeg x → mSk h' → mW G k d b pc' ls st h' Q) : mW G k d b pc ls (.inl x :: .inl i :: .inr (some a) :: st) h Q := mw_iast hd hp ha (by rw [hl]; exact hi) (kk _ rfl (sk_SI hS))
theorem mw_bastK {a n : Nat} {i x : Int32} (hd : decode k.2.1 pc = .ok (.bastore, 1)) (hp : pc + 1 = pc') (ha : mT h a = 101) (hl : mL h a = n) (hi : vp_in i n) (hn : narrow .boolean (.int x) = .int x) (hS : mSk h) (kk : ∀ h', h' = mSI h a i.toNatClampNeg x → mSk h' → mW G k d b pc' ls st h' Q) : mW G k d b pc ls (.inl x :: .inl i :: .inr (some a) :: st) h Q := mw_bast hd hp ha (by rw [hl]; exact hi) hn (kk _ rfl (sk_SI hS))
theorem mw_yastK {a n : Nat} {i x : Int32} (hd : decode k.2.1 pc = .ok (.bastore, 1)) (hp : pc + 1 = pc') (ha : mT h a = 105) (hl : mL h a = n) (hi : vp_in i n) (hS : mSk h) (kk : ∀ h', h' = mSI h a i.toNatClampNeg x.toInt8.toInt32 → mSk h' → mW G k d b pc' ls st h' Q) : mW G k d b pc ls (.inl x :: .inl i :: .inr (some a) :: st) h Q := mw_yast hd hp ha (by rw [hl]; exact hi) (kk _ rfl (sk_SI hS))
theorem mw_aastK {a n v t : Nat} {i : Int32} (hd : decode k.2.1 pc = .ok (.aastore, 1)) (hp : pc + 1 = pc') (ht : t < 3) (ha : mT h a = 110 + t) (hl : mL h a = n) (hi : vp_in i n) (hv : mT h v = mAc t + 1) (hS : mSk h) (kk : ∀ h', h' = mSR h a i.toNatClampNeg (some v) → mSk h' → mW G k d b pc' ls st h' Q) : mW G k d b pc ls (.inr (some v) :: .inl i :: .inr (some a) :: st) h Q := mw_aast hd hp ht ha hv (by rw [hl]; exact hi) (kk _ rfl (sk_SR hS ha (sk_CFbig (by omega))))
theorem mw_putIK {a ci j idx : Nat} {x : Int32} (hd : decode k.2.1 pc = .ok (.putfield idx, 3)) (hp : pc + 3 = pc') (hl : mFL k.1.cls idx ci j) (hf : mFr ci j = false) (hfin : mFin ci j = false ∨ (mFin ci j = true ∧ k.1.name = "<init>" ∧ mOwn ci j = k.1.cls)) (hn : narrow (mTy ci j) (.int x) = .int x ∧ fits (mTy ci j) (.int x) = true) (ha : mT h a = ci + 1) (hS : mSk h) (kk : ∀ h', h' = mSI h a j x → mSk h' → mW G k d b pc' ls st h' Q) : mW G k d b pc ls (.inl x :: .inr (some a) :: st) h Q := mw_putI hd hp hl hf hfin hn ha (kk _ rfl (sk_SI hS))
theorem mw_putRK {a ci j idx : Nat} {r : Option Nat} (hd : decode k.2.1 pc = .ok (.putfield idx, 3)) (hp : pc + 3 = pc') (hl : mFL k.1.cls idx ci j) (hf : mFr ci j = true) (hfin : mFin ci j = false ∨ (mFin ci j = true ∧ k.1.name = "<init>" ∧ mOwn ci j = k.1.cls)) (ha : mT h a = ci + 1) (hS : mSk h) (hk : (ci + 1, j) ∉ skCF) (kk : ∀ h', h' = mSR h a j r → mSk h' → mW G k d b pc' ls st h' Q) : mW G k d b pc ls (.inr r :: .inr (some a) :: st) h Q := mw_putR hd hp hl hf hfin ha (kk _ rfl (sk_SR hS ha hk))
theorem mw_putIC {a ci j idx : Nat} {x : Int32} (hd : decode k.2.1 pc = .ok (.putfield idx, 3)) (hp : pc + 3 = pc') (hl : mFL k.1.cls idx ci j) (hf : mFr ci j = false) (hfin : mFin ci j = false ∨ (mFin ci j = true ∧ k.1.name = "<init>" ∧ mOwn ci j = k.1.cls)) (hn : narrow (mTy ci j) (.int x) = .int x ∧ fits (mTy ci j) (.int x) = true) (ha : mT h a = ci + 1) (kk : ∀ h', h' = mSI h a j x → mW G k d b pc' ls st h' Q) : mW G k d b pc ls (.inl x :: .inr (some a) :: st) h Q := mw_putI hd hp hl hf hfin hn ha (kk _ rfl)
theorem mw_putRC {a ci j idx : Nat} {r : Option Nat} (hd : decode k.2.1 pc = .ok (.putfield idx, 3)) (hp : pc + 3 = pc') (hl : mFL k.1.cls idx ci j) (hf : mFr ci j = true) (hfin : mFin ci j = false ∨ (mFin ci j = true ∧ k.1.name = "<init>" ∧ mOwn ci j = k.1.cls)) (ha : mT h a = ci + 1) (kk : ∀ h', h' = mSR h a j r → mW G k d b pc' ls st h' Q) : mW G k d b pc ls (.inr r :: .inr (some a) :: st) h Q := mw_putR hd hp hl hf hfin ha (kk _ rfl)
theorem mw_newK {b1 b2 ci N idx : Nat} (hd : decode k.2.1 pc = .ok (.new idx, 3)) (hp : pc + 3 = pc') (hN : mNf ci = N) (hcl : ∃ q : vw_C, vwCl[ci]? = some q ∧ Cond.classLink k.1.cls idx q.1 ∈ mTs ∧ Cond.instantiable q.1 N ∈ mTs ∧ Cond.initialized q.1 ∈ mTs) (hdf : ∀ j, j < N → mFr ci j = false → defaultValue (mTy ci j) = .int 0) (hb : b = (b1 + 1, b2 + N)) (hS : mSk h) (kk : ∀ h', h' = mAl h (ci + 1) 0 → mSkA h' → mW G k d (b1, b2) pc' ls (.inr (some (mN h)) :: st) h' Q) : mW G k d b pc ls st h Q := mw_new hd hp hN hcl hdf hb (kk _ rfl (sk_Al hS))
end
/-! reads behind writes -/
theorem mI_SI {h : mH} {a k a' k' : Nat} {x : Int32} : mI (mSI h a k x) a' k' = if a' = a ∧ k' = k then x else mI h a' k' := by
  show mU (mI h) a k x a' k' = _
  by_cases h1 : a' = a
  · subst h1
    rw [mU_on]
    by_cases h2 : k' = k <;> simp [h2]
  · rw [mU_off h1]; simp [h1]
theorem mI_SI_s {h : mH} {a k : Nat} {x : Int32} : mI (mSI h a k x) a k = x := by rw [mI_SI]; simp
theorem mI_SI_a {h : mH} {a k a' k' : Nat} {x : Int32} (ha : a' ≠ a) : mI (mSI h a k x) a' k' = mI h a' k' := by rw [mI_SI, if_neg (fun z => ha z.1)]
theorem mI_SI_k {h : mH} {a k a' k' : Nat} {x : Int32} (hk : k' ≠ k) : mI (mSI h a k x) a' k' = mI h a' k' := by rw [mI_SI, if_neg (fun z => hk z.2)]
theorem mT_SI {h : mH} {a k : Nat} {x : Int32} : mT (mSI h a k x) = mT h := rfl
theorem mL_SI {h : mH} {a k : Nat} {x : Int32} : mL (mSI h a k x) = mL h := rfl
theorem mR_SI {h : mH} {a k : Nat} {x : Int32} : mR (mSI h a k x) = mR h := rfl
theorem mN_SI {h : mH} {a k : Nat} {x : Int32} : mN (mSI h a k x) = mN h := rfl
theorem mT_SR {h : mH} {a k : Nat} {x : Option Nat} : mT (mSR h a k x) = mT h := rfl
theorem mL_SR {h : mH} {a k : Nat} {x : Option Nat} : mL (mSR h a k x) = mL h := rfl
theorem mI_SR {h : mH} {a k : Nat} {x : Option Nat} : mI (mSR h a k x) = mI h := rfl
theorem mN_SR {h : mH} {a k : Nat} {x : Option Nat} : mN (mSR h a k x) = mN h := rfl
theorem mR_SR {h : mH} {a k a' k' : Nat} {x : Option Nat} : mR (mSR h a k x) a' k' = if a' = a ∧ k' = k then x else mR h a' k' := by
  show mU (mR h) a k x a' k' = _
  by_cases h1 : a' = a
  · subst h1
    rw [mU_on]
    by_cases h2 : k' = k <;> simp [h2]
  · rw [mU_off h1]; simp [h1]
