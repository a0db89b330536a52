/-! pushed coasts -/
def puM (n s i : Nat) : Bool := decide (i = s ∨ i = nxt n s)
def puX (C : aCo) (s : Nat) (e : Int) (i : Nat) : Int := cX C i + (if puM (cN C) s i = true ∧ s % 2 = 1 then e else 0)
def puY (C : aCo) (s : Nat) (e : Int) (i : Nat) : Int := cY C i + (if puM (cN C) s i = true ∧ s % 2 = 0 then e else 0)
def sdZ (i : Nat) (x x' y y' : Int) : Bool := if i % 2 = 0 then decide (y = y') && !decide (x = x') else decide (x = x') && !decide (y = y')
def puO (C : aCo) (s : Nat) (e : Int) (i : Nat) : Prop := (0 ≤ puX C s e i ∧ puX C s e i ≤ 32) ∧ (0 ≤ puY C s e i ∧ puY C s e i ≤ 32) ∧ sdZ i (puX C s e i) (puX C s e (nxt (cN C) i)) (puY C s e i) (puY C s e (nxt (cN C) i)) = true
def puOk (C : aCo) (s : Nat) (e : Int) : Prop := ∀ i, i < cN C → puO C s e i
def puC (C : aCo) (s : Nat) (e : Int) : aCo := (cN C, fun i => (puX C s e i).toNat, fun i => (puY C s e i).toNat, cS C)
def puB (n s : Nat) : Nat := if s = 0 then n - 1 else s - 1
def puF (n s : Nat) : Nat := if s + 2 < n then s + 2 else s + 2 - n
def puA (C : aCo) (s i : Nat) : Int := if s % 2 = 0 then cY C i else cX C i
def puK (C : aCo) (s : Nat) (e : Int) : Prop := (0 ≤ puA C s s + e ∧ puA C s s + e ≤ 32) ∧ puA C s (puB (cN C) s) ≠ puA C s s + e ∧ puA C s (puF (cN C) s) ≠ puA C s s + e
theorem sdZ_t {i : Nat} {x x' y y' : Int} : sdZ i x x' y y' = true ↔ (if i % 2 = 0 then y = y' ∧ x ≠ x' else x = x' ∧ y ≠ y') := by
  unfold sdZ
  split <;> simp
theorem puC_ok {C : aCo} {s : Nat} {e : Int} (ok : okRing C) (h : puOk C s e) : okRing (puC C s e) := by
  refine ⟨ok.1, fun i hi => ?_⟩
  have hi' : i < cN C := hi
  obtain ⟨h1, h2, h3⟩ := h i hi'
  obtain ⟨g1, g2, -⟩ := h (nxt (cN C) i) (nxt_lt hi')
  refine ⟨⟨?_, ?_, (ok.2 i hi').1.2.2⟩, ?_⟩
  · show (puX C s e i).toNat ≤ 32; omega
  · show (puY C s e i).toNat ≤ 32; omega
  · rw [sdZ_t] at h3
    show if i % 2 = 0 then (puY C s e i).toNat = (puY C s e (nxt (cN C) i)).toNat ∧ (puX C s e i).toNat ≠ (puX C s e (nxt (cN C) i)).toNat else (puX C s e i).toNat = (puX C s e (nxt (cN C) i)).toNat ∧ (puY C s e i).toNat ≠ (puY C s e (nxt (cN C) i)).toNat
    by_cases q : i % 2 = 0
    · rw [if_pos q] at h3 ⊢; omega
    · rw [if_neg q] at h3 ⊢; omega
theorem puM_t {n s i : Nat} : puM n s i = true ↔ (i = s ∨ i = nxt n s) := by unfold puM; exact decide_eq_true_iff
theorem nxt_B {n s : Nat} (hn : 4 ≤ n) (hs : s < n) : puB n s < n ∧ nxt n (puB n s) = s ∧ puB n s % 2 ≠ s % 2 ∨ (n % 2 = 1) := by
  by_cases q : n % 2 = 1
  · exact Or.inr q
  · refine Or.inl ?_
    unfold puB nxt
    split <;> (refine ⟨by omega, ?_, by omega⟩; split <;> omega)
theorem nxt_F {n s : Nat} (hn : 4 ≤ n) (hs : s < n) : puF n s < n ∧ nxt n (nxt n s) = puF n s := by
  unfold puF nxt
  split <;> split <;> (refine ⟨by omega, ?_⟩; split <;> omega)
theorem pu1 {n s B N F : Nat} {nx : Nat → Nat} {P O P' : Nat → Int} {e : Int} (hs : s < n) (hB : B < n) (hN : N < n) (nB : ¬ B % 2 = s % 2) (nN : ¬ N % 2 = s % 2) (eB : nx B = s) (eN : nx s = N) (eF : nx N = F) (d1 : ¬ (B = s ∨ B = N)) (d2 : ¬ (F = s ∨ F = N))
    (inj : ∀ i, i < n → i ≠ s → i ≠ B → ¬ (nx i = s ∨ nx i = N)) (p1 : ∀ i, (i = s ∨ i = N) → P' i = P i + e) (p2 : ∀ i, ¬ (i = s ∨ i = N) → P' i = P i) (rg : ∀ i, i < n → 0 ≤ P i ∧ P i ≤ 32)
    (sd : ∀ i, i < n → if i % 2 = s % 2 then P i = P (nx i) ∧ O i ≠ O (nx i) else O i = O (nx i) ∧ P i ≠ P (nx i)) :
    (∀ i, i < n → (0 ≤ P' i ∧ P' i ≤ 32) ∧ (if i % 2 = s % 2 then P' i = P' (nx i) ∧ O i ≠ O (nx i) else O i = O (nx i) ∧ P' i ≠ P' (nx i))) ↔ ((0 ≤ P s + e ∧ P s + e ≤ 32) ∧ P B ≠ P s + e ∧ P F ≠ P s + e) := by
  have s0 := sd s hs
  rw [if_pos rfl, eN] at s0
  have sB := sd B hB
  rw [if_neg nB, eB] at sB
  have sN := sd N hN
  rw [if_neg nN, eF] at sN
  have es := p1 s (Or.inl rfl)
  have eN' := p1 N (Or.inr rfl)
  have eB' := p2 B d1
  have eF' := p2 F d2
  constructor
  · intro z
    have z1 := (z s hs).1
    have z2 := (z B hB).2
    rw [if_neg nB, eB, eB', es] at z2
    have z3 := (z N hN).2
    rw [if_neg nN, eF, eN', eF'] at z3
    rw [es] at z1
    refine ⟨z1, z2.2, fun q => z3.2 ?_⟩
    rw [q, s0.1]
  · rintro ⟨k1, k2, k3⟩ i hi
    have r1 := rg i hi
    have si := sd i hi
    by_cases q : i = s ∨ i = N
    · rcases q with q | q
      · subst q
        rw [if_pos rfl, eN, es, eN', s0.1]
        rw [s0.1] at k1
        exact ⟨k1, rfl, s0.2⟩
      · subst q
        rw [if_neg nN, eF, eN', eF', ← s0.1]
        exact ⟨k1, sN.1, fun t => k3 t.symm⟩
    · rw [p2 i q]
      refine ⟨r1, ?_⟩
      by_cases qB : i = B
      · subst qB
        rw [if_neg nB, eB, es]
        exact ⟨sB.1, k2⟩
      · rw [p2 (nx i) (inj i hi (fun t => q (Or.inl t)) qB)]
        exact si
theorem pu_iff {C : aCo} {s : Nat} {e : Int} (ok : okRing C) (hs : s < cN C) : puOk C s e ↔ puK C s e := by
  obtain ⟨⟨hn4, hn16, hn2⟩, hC⟩ := ok
  have hB := (nxt_B (n := cN C) hn4 hs).resolve_right (by omega)
  have hF := nxt_F (n := cN C) hn4 hs
  have hN := nxt_lt hs
  have nN : ¬ nxt (cN C) s % 2 = s % 2 := by unfold nxt; split <;> omega
  have d1 : ¬ (puB (cN C) s = s ∨ puB (cN C) s = nxt (cN C) s) := by unfold nxt puB; split <;> split <;> omega
  have d2 : ¬ (puF (cN C) s = s ∨ puF (cN C) s = nxt (cN C) s) := by unfold nxt puF; split <;> split <;> omega
  have inj : ∀ i, i < cN C → i ≠ s → i ≠ puB (cN C) s → ¬ (nxt (cN C) i = s ∨ nxt (cN C) i = nxt (cN C) s) := fun i hi h1 h2 => by
    have h3 : nxt (cN C) i ≠ s := by
      intro z; apply h2
      unfold nxt at z; unfold puB
      split at z <;> split <;> omega
    have h4 : nxt (cN C) i ≠ nxt (cN C) s := by
      intro z; apply h1
      unfold nxt at z
      split at z <;> split at z <;> omega
    exact fun t => t.elim h3 h4
  have m1 : ∀ i, puM (cN C) s i = true ↔ (i = s ∨ i = nxt (cN C) s) := fun i => puM_t
  have rg := fun i hi => (hC i hi).1
  have sd := fun i hi => (hC i hi).2
  unfold coSd at sd
  rcases (show s % 2 = 0 ∨ s % 2 = 1 by omega) with p | p
  · have ex : ∀ i, puX C s e i = cX C i := fun i => by unfold puX; rw [if_neg (by omega)]; omega
    have eA : ∀ i, puA C s i = cY C i := fun i => by unfold puA; rw [if_pos p]
    have main := pu1 (nx := nxt (cN C)) (P := fun i => (cY C i : Int)) (O := fun i => (cX C i : Int)) (P' := puY C s e) (e := e) hs hB.1 hN hB.2.2 nN hB.2.1 rfl hF.2 d1 d2 inj (fun i q => by unfold puY; rw [if_pos ⟨(m1 i).mpr q, p⟩]) (fun i q => by unfold puY; rw [if_neg (fun t => q ((m1 i).mp t.1))]; exact Int.add_zero _) (fun i hi => by have := rg i hi; omega) (fun i hi => by
      have := sd i hi
      rw [p]
      by_cases q : i % 2 = 0
      · rw [if_pos q] at this ⊢; omega
      · rw [if_neg q] at this ⊢; omega)
    unfold puK
    rw [eA, eA, eA]
    refine Iff.trans ?_ main
    constructor
    · intro z i hi
      obtain ⟨-, z2, z3⟩ := z i hi
      rw [sdZ_t, ex, ex] at z3
      refine ⟨z2, ?_⟩
      rw [p]
      by_cases q : i % 2 = 0
      · rw [if_pos q] at z3 ⊢; exact z3
      · rw [if_neg q] at z3 ⊢; exact z3
    · intro z i hi
      obtain ⟨z2, z3⟩ := z i hi
      rw [p] at z3
      have r := rg i hi
      refine ⟨by rw [ex]; omega, z2, ?_⟩
      rw [sdZ_t, ex, ex]
      by_cases q : i % 2 = 0
      · rw [if_pos q] at z3 ⊢; exact z3
      · rw [if_neg q] at z3 ⊢; exact z3
  · have ey : ∀ i, puY C s e i = cY C i := fun i => by unfold puY; rw [if_neg (by omega)]; omega
    have eA : ∀ i, puA C s i = cX C i := fun i => by unfold puA; rw [if_neg (by omega)]
    have main := pu1 (nx := nxt (cN C)) (P := fun i => (cX C i : Int)) (O := fun i => (cY C i : Int)) (P' := puX C s e) (e := e) hs hB.1 hN hB.2.2 nN hB.2.1 rfl hF.2 d1 d2 inj (fun i q => by unfold puX; rw [if_pos ⟨(m1 i).mpr q, p⟩]) (fun i q => by unfold puX; rw [if_neg (fun t => q ((m1 i).mp t.1))]; exact Int.add_zero _) (fun i hi => by have := rg i hi; omega) (fun i hi => by
      have := sd i hi
      rw [p]
      by_cases q : i % 2 = 0
      · rw [if_pos q] at this; rw [if_neg (by omega)]; omega
      · rw [if_neg q] at this; rw [if_pos (by omega)]; omega)
    unfold puK
    rw [eA, eA, eA]
    refine Iff.trans ?_ main
    constructor
    · intro z i hi
      obtain ⟨z1, -, z3⟩ := z i hi
      rw [sdZ_t, ey, ey] at z3
      refine ⟨z1, ?_⟩
      rw [p]
      by_cases q : i % 2 = 0
      · rw [if_pos q] at z3; rw [if_neg (by omega)]; exact z3
      · rw [if_neg q] at z3; rw [if_pos (by omega)]; exact z3
    · intro z i hi
      obtain ⟨z2, z3⟩ := z i hi
      rw [p] at z3
      have r := rg i hi
      refine ⟨z2, by rw [ey]; omega, ?_⟩
      rw [sdZ_t, ey, ey]
      by_cases q : i % 2 = 0
      · rw [if_neg (by omega)] at z3; rw [if_pos q]; exact z3
      · rw [if_pos (by omega)] at z3; rw [if_neg q]; exact z3
theorem f_corZ {z : Int} (h : -100 ≤ z ∧ z ≤ 100) : f_X12_isCorner (iI z) = 0 ↔ ¬ (0 ≤ z ∧ z ≤ 32) := by
  unfold f_X12_isCorner
  have e1 : iI z < 0 ↔ z < 0 := ii_lt (b := 0) ⟨by omega, by omega⟩ ⟨by omega, by omega⟩
  have e2 : 33 ≤ iI z ↔ 33 ≤ z := ii_le (a := 33) ⟨by omega, by omega⟩ ⟨by omega, by omega⟩
  by_cases h1 : z < 0
  · rw [if_pos (e1.mpr h1)]; exact ⟨fun _ => by omega, fun _ => rfl⟩
  · rw [if_neg (fun t => h1 (e1.mp t))]
    by_cases h2 : 33 ≤ z
    · rw [if_pos (e2.mpr h2)]; exact ⟨fun _ => by omega, fun _ => rfl⟩
    · rw [if_neg (fun t => h2 (e2.mp t))]; exact ⟨fun t => absurd t (by decide), fun t => absurd ⟨by omega, by omega⟩ t⟩
