/-! facing: the class's views -/
def cLa (h : mH) (a : Nat) (C : aCo) : Prop := ∀ x y, x < 32 → y < 32 → bt (mI h (a + 1) y) x = coLand C x y ∧ bt (mI h (a + 2) x) y = coLand C x y
section
variable {G : mG} {d : Nat} {b : Nat × Nat} {h : mH} {Q : Option mV → mH → Prop}
theorem c1_isLand {a x y : Nat} {C : aCo} (hS : mSk h) (ta : mT h a = 2) (hL : cLa h a C) (hx : x < 32) (hy : y < 32) (K : Q (some (.inl (b2i (coLand C x y)))) h) : mC G kX1_isLand d b [.inr (some a), .inl (nI x), .inl (nI y)] h Q := by
  refine qX1_isLand a _ _ ta hS ⟨vp_in_nI (by omega) (by omega), fun w2 e => ?_⟩
  rw [nI_clamp (by omega)] at e
  have hb := (hL x y hx hy).1
  have ha := bt_ask (mI h (a + 1) y) hx
  rw [e]
  cases hc : coLand C x y with
  | true => rw [hc] at K hb; rw [if_neg (fun z => z (ha.mpr hb))]; exact K
  | false => rw [hc] at K hb; rw [if_pos (fun z => by rw [ha.mp z] at hb; cases hb)]; exact K
set_option maxHeartbeats 1000000 in
theorem c1_sortLoop {a a5 a6 q x y at0 pl : Nat} {C : aCo} {F E : Nat → Nat} (hS : mSk h) (ta : mT h a = 2) (t5 : mT h a5 = 100) (t6 : mT h a6 = 100) (l5 : mL h a5 = 16) (l6 : mL h a6 = 16) (hC : mCoX h a C) (ok : okRing C)
    (r5 : ∀ j, j < cN C → mI h a5 j = nI (F j) ∧ F j ≤ 32) (r6 : ∀ j, j < cN C → mI h a6 j = nI (E j) ∧ E j ≤ 32) (hat : at0 ≤ 32) (hpl : pl ≤ 32)
    (hH : ∀ j, soH C q x y j = (decide (j % 2 = q % 2) && (decide (F j = at0) && btw pl (E j) (E (nxt (cN C) j))))) : ∀ (r i : Nat), cN C ≤ i + 2 * r → i % 2 = q % 2 → i ≤ cN C + 1 →
    Q (some (.inl (nI ((soF C q x y (cN C - i) i).getD 0)))) h → mW G kX1_sortBeside d b 96 [some (.inr (some a)), none, none, none, none, some (.inr (some a5)), some (.inr (some a6)), some (.inl (nI at0)), some (.inl (nI pl)), some (.inl (nI i)), none, none] [] h Q := by
  have hn16 := ok.1.2.1
  have hn2 := ok.1.2.2
  have base : ∀ i, cN C ≤ i → i ≤ cN C + 1 → Q (some (.inl (nI ((soF C q x y (cN C - i) i).getD 0)))) h → mW G kX1_sortBeside d b 96 [some (.inr (some a)), none, none, none, none, some (.inr (some a5)), some (.inr (some a6)), some (.inl (nI at0)), some (.inl (nI pl)), some (.inl (nI i)), none, none] [] h Q := by
    intro i h1 h2 K
    refine qX1_sortBeside_96 a a5 a6 _ _ _ ta t5 t6 hS ⟨fun _ => ?_, fun z => ?_⟩
    · rw [show cN C - i = 0 by omega] at K; exact K
    · rw [hC.1, nI_leI (by omega) (by omega)] at z; omega
  intro r
  induction r with
  | zero => intro i h1 _ h2 K; exact base i (by omega) h2 K
  | succ r ih =>
    intro i h1 hp h2 K
    by_cases hi : cN C ≤ i
    · exact base i hi h2 K
    · have hi : i < cN C := by omega
      have hnx := nxt_lt hi
      obtain ⟨a1, a2⟩ := r5 i hi
      obtain ⟨b1, b2⟩ := r6 i hi
      obtain ⟨d1, d2⟩ := r6 _ hnx
      have hskip : soH C q x y (i + 1) = false := by rw [hH, show decide ((i + 1) % 2 = q % 2) = false from decide_eq_false (by omega)]; rfl
      have hstep : soF C q x y (cN C - i) i = if soH C q x y i then some (cS C i) else soF C q x y (cN C - (i + 2)) (i + 2) := by
        rw [show cN C - i = (cN C - (i + 1)) + 1 by omega]
        have e2 : soF C q x y (cN C - (i + 1)) (i + 1) = soF C q x y (cN C - (i + 2)) (i + 2) := by
          by_cases he : i + 1 < cN C
          · rw [show cN C - (i + 1) = (cN C - (i + 2)) + 1 by omega]
            show (if soH C q x y (i + 1) then _ else _) = _
            rw [hskip, if_neg (by decide)]
          · rw [show cN C - (i + 1) = 0 by omega, show cN C - (i + 2) = 0 by omega]; rfl
        rw [← e2]; rfl
      have hHi : soH C q x y i = (decide (F i = at0) && btw pl (E i) (E (nxt (cN C) i))) := by rw [hH, decide_eq_true hp]; rfl
      have next : soH C q x y i = false → mW G kX1_sortBeside d b 96 [some (.inr (some a)), none, none, none, none, some (.inr (some a5)), some (.inr (some a6)), some (.inl (nI at0)), some (.inl (nI pl)), some (.inl (nI (i + 2))), none, none] [] h Q := fun e => ih (i + 2) (by omega) (by omega) (by omega) (by rw [hstep, e, if_neg (by decide)] at K; exact K)
      refine qX1_sortBeside_96 a a5 a6 _ _ _ ta t5 t6 hS ⟨fun z => ?_, fun _ w1 e1 => ?_⟩
      · rw [hC.1, nI_leI (by omega) (by omega)] at z; omega
      · have hw1 : w1 = nI (nxt (cN C) i) := by
          rw [e1, hC.1, nI_1]
          unfold nxt
          by_cases hx : i + 1 = cN C
          · rw [if_pos ((nI_leI (by omega) (by omega)).mpr (by omega)), if_pos hx]; rfl
          · rw [if_neg (fun z => by rw [nI_leI (by omega) (by omega)] at z; omega), if_neg hx]
        rw [hw1, l5, l6, nI_clamp (by omega), nI_clamp (by omega), a1, b1, d1]
        have vi : vp_in (nI i) 16 := vp_in_nI (by omega) (by omega)
        have vn : vp_in (nI (nxt (cN C) i)) 16 := vp_in_nI (by omega) (by omega)
        refine ⟨vn, vi, fun w4 e4 w5 e5 w6 e6 => ⟨vi, fun z => ?_, fun z => ⟨fun z6 => ?_, fun z6 => ⟨vi, ?_⟩⟩⟩⟩
        · rw [L2, nI_add]
          refine next ?_
          rw [hHi, show decide (F i = at0) = false from decide_eq_false (fun t => z (by rw [t]))]; rfl
        · rw [L2, nI_add]
          refine next ?_
          have hw4 : w4 = b2i (decide (E i ≤ pl)) := by
            rw [e4]
            by_cases ht : E i ≤ pl
            · rw [decide_eq_true ht, if_neg (fun z => by rw [nI_ltI (by omega) (by omega)] at z; omega)]; rfl
            · rw [decide_eq_false ht, if_pos ((nI_ltI (by omega) (by omega)).mpr (by omega))]; rfl
          have hw5 : w5 = b2i (decide (E (nxt (cN C) i) ≤ pl)) := by
            rw [e5]
            by_cases ht : E (nxt (cN C) i) ≤ pl
            · rw [decide_eq_true ht, if_neg (fun z => by rw [nI_ltI (by omega) (by omega)] at z; omega)]; rfl
            · rw [decide_eq_false ht, if_pos ((nI_ltI (by omega) (by omega)).mpr (by omega))]; rfl
          have hb : btw pl (E i) (E (nxt (cN C) i)) = false := by
            unfold btw
            rw [hw4, hw5] at e6
            rw [e6] at z6
            cases hu : decide (E i ≤ pl) <;> cases hv : decide (E (nxt (cN C) i) ≤ pl) <;> rw [hu, hv] at z6 <;> first | rfl | exact absurd z6 (by decide)
          rw [hHi, hb, Bool.and_false]
        · have hw4 : w4 = b2i (decide (E i ≤ pl)) := by
            rw [e4]
            by_cases ht : E i ≤ pl
            · rw [decide_eq_true ht, if_neg (fun z => by rw [nI_ltI (by omega) (by omega)] at z; omega)]; rfl
            · rw [decide_eq_false ht, if_pos ((nI_ltI (by omega) (by omega)).mpr (by omega))]; rfl
          have hw5 : w5 = b2i (decide (E (nxt (cN C) i) ≤ pl)) := by
            rw [e5]
            by_cases ht : E (nxt (cN C) i) ≤ pl
            · rw [decide_eq_true ht, if_neg (fun z => by rw [nI_ltI (by omega) (by omega)] at z; omega)]; rfl
            · rw [decide_eq_false ht, if_pos ((nI_ltI (by omega) (by omega)).mpr (by omega))]; rfl
          have hb : btw pl (E i) (E (nxt (cN C) i)) = true := by
            unfold btw
            rw [hw4, hw5] at e6
            rw [e6] at z6
            cases hu : decide (E i ≤ pl) <;> cases hv : decide (E (nxt (cN C) i) ≤ pl) <;> rw [hu, hv] at z6 <;> first | rfl | exact absurd (by decide) z6
          rw [nI_eq (by omega) (by omega)] at z
          rw [hstep, hHi, hb, decide_eq_true z, if_pos (show (true && true) = true from rfl)] at K
          rw [(hC.2 i hi).2.2]
          exact K
theorem c1_sortBeside {a q x y : Nat} {C : aCo} (hS : mSk h) (ta : mT h a = 2) (hC : mCoX h a C) (ok : okRing C) (hq : q < 4) (hx : x < 32) (hy : y < 32) (K : Q (some (.inl (nI (soB C q x y)))) h) : mC G kX1_sortBeside d b [.inr (some a), .inl (nI q), .inl (nI x), .inl (nI y)] h Q := by
  have t6 := skBT_1_6 hS ta
  have t7 := skBT_1_7 hS ta
  have l6 := skBL_1_6 hS ta
  have l7 := skBL_1_7 hS ta
  have rX : ∀ j, j < cN C → mI h (a + 6) j = nI (cX C j) ∧ cX C j ≤ 32 := fun j hj => ⟨(hC.2 j hj).1, (ok.2 j hj).1.1⟩
  have rY : ∀ j, j < cN C → mI h (a + 7) j = nI (cY C j) ∧ cY C j ≤ 32 := fun j hj => ⟨(hC.2 j hj).2.1, (ok.2 j hj).1.2.1⟩
  have hn2 := ok.1.2.2
  refine qX1_sortBeside a _ _ _ ta hS (fun w1 e1 => ?_)
  rw [and1_n (by omega)] at e1
  rcases (show q % 2 = 0 ∨ q % 2 = 1 by omega) with hp | hp
  · have hw : w1 = 1 := by rw [e1, hp]; rfl
    subst hw
    refine ⟨fun z => absurd z (by decide), fun _ => ⟨fun z => absurd z (by decide), fun _ w2 e2 w3 e3 w4 e4 w5 e5 => ?_⟩⟩
    rw [if_neg (by decide)] at e2 e4 e5
    have hat : w2 + w3 = nI (if q = 0 then y + 1 else y) := by
      rw [e2, e3]
      rcases (show q = 0 ∨ q = 2 by omega) with rfl | rfl
      · rw [if_neg (by decide), if_pos rfl, nI_1]
      · rw [if_pos (by decide), if_neg (by decide)]; exact Int32.add_zero _
    rw [hat, e4, e5]
    refine c1_sortLoop (q := q) (x := x) (y := y) (F := cY C) (E := cX C) hS ta t7 t6 l7 l6 hC ok rY rX (by split <;> omega) (by omega) (fun j => ?_) (cN C) 0 (by omega) (by omega) (by omega) K
    unfold soH; rw [if_pos hp, hp]
  · have hw : w1 = 0 := by rw [e1, hp]; rfl
    subst hw
    refine ⟨fun _ => ⟨fun _ w2 e2 w3 e3 w4 e4 w5 e5 => ?_, fun z => absurd rfl z⟩, fun z => absurd rfl z⟩
    rw [if_pos rfl] at e2 e4 e5
    have hat : w2 + w3 = nI (if q = 1 then x + 1 else x) := by
      rw [e2, e3]
      rcases (show q = 1 ∨ q = 3 by omega) with rfl | rfl
      · rw [if_neg (by decide), if_pos rfl, nI_1]
      · rw [if_pos (by decide), if_neg (by decide)]; exact Int32.add_zero _
    rw [hat, e4, e5]
    refine c1_sortLoop (q := q) (x := x) (y := y) (F := cX C) (E := cY C) hS ta t6 t7 l6 l7 hC ok rX rY (by split <;> omega) (by omega) (fun j => ?_) (cN C) 1 (by omega) (by omega) (by omega) ?_
    · unfold soH; rw [if_neg (by omega), hp]
    · unfold soB at K
      have h0 : soH C q x y 0 = false := by unfold soH; rw [if_neg (by omega)]; rfl
      have h4 := ok.1.1
      have e : soF C q x y (cN C) 0 = soF C q x y (cN C - 1) 1 := by
        rw [show cN C = (cN C - 1) + 1 by omega]
        show (if soH C q x y 0 then _ else _) = _
        rw [h0, if_neg (by decide)]
        rfl
      rw [← e]; exact K
end
