/-! waiting signs are put (model) -/
def tpI (V : List (Nat × Nat)) : Int32 := match V with
  | [] => -1
  | c :: _ => nI c.1
def clV (a : Bool) : List (Nat × Nat) → List (Nat × Nat) → List (Nat × Nat) × List (Nat × Nat)
  | C, [] => (C, [])
  | C, c :: V => if (4 ≤ c.1 ∧ c.1 ≤ 6) ∨ (a = true ∧ (c.1 = 2 ∨ c.1 = 3)) then clV a (C ++ [(c.1, 0)]) V else (C, c :: V)
theorem clV_l (a : Bool) : ∀ (V C : List (Nat × Nat)), C.length ≤ (clV a C V).1.length
  | [], C => Nat.le_refl _
  | c :: V, C => by
    unfold clV
    split
    · refine Nat.le_trans ?_ (clV_l a V (C ++ [(c.1, 0)])); simp
    · exact Nat.le_refl _
theorem ops_c : ∀ o, o ≤ 14 → ((nI o < 4 ↔ o < 4) ∧ (nI o ≤ 6 ↔ o ≤ 6) ∧ (nI o = 2 ↔ o = 2) ∧ (nI o = 3 ↔ o = 3)) := by decide +kernel
section
variable {G : mG} {d : Nat} {b : Nat × Nat} {h : mH} {Q : Option mV → mH → Prop}
theorem m_topI {t : Nat → Nat} {n p o : Nat} {C V : List (Nat × Nat)} (R : mdS h t n p o C V) (hV : V.length ≤ 180) (hb : ∀ c ∈ V, c.1 ≤ 14 ∧ c.2 < 1048576) (K : Q (some (.inl (tpI V))) h) : mC G kX12_top d b [.inr (some 47)] h Q :=
  m_top R hV hb (fun e => by rw [e] at K; exact K) (fun c V' e => by rw [e] at K; exact K)
theorem mdS.pop {h' : mH} {t : Nat → Nat} {n p o : Nat} {c : Nat × Nat} {C V : List (Nat × Nat)} (R : mdS h t n p o C (c :: V)) (e : h' = mSI h 47 18 (mI h 47 18 - 1)) : mFr2 (fun a k => a = 47 ∧ k = 18) h h' ∧ mdS h' t n p o C V := by
  obtain ⟨hS, ⟨e13, hp⟩, ⟨e14, hn⟩, ht, e16, ⟨e17, hc⟩, e18, hw⟩ := R
  have f : mFr2 (fun a k => a = 47 ∧ k = 18) h h' := by rw [e]; exact mFr2.SI ⟨rfl, rfl⟩
  refine ⟨f, f.1.sk hS, ⟨by rw [f.2 _ _ (by omega)]; exact e13, hp⟩, ⟨by rw [f.2 _ _ (by omega)]; exact e14, hn⟩, fun j hj => ⟨(ht j hj).1, by rw [f.2 _ _ (by omega)]; exact (ht j hj).2⟩, by rw [f.2 _ _ (by omega)]; exact e16, ⟨by rw [f.2 _ _ (by omega)]; exact e17, fun i hi => by rw [f.2 _ _ (by omega)]; exact hc i hi⟩, ?_, stV.cg V (fun i _ => f.2 _ _ (by omega)) hw.2⟩
  rw [e, mI_SI_s, e18, show (c :: V).length = V.length + 1 from rfl, show (1 : Int32) = nI 1 from rfl, pk_sub (by omega)]
  rfl
theorem m_closesSums {t : Nat → Nat} {n p o : Nat} (a : Bool) {h0 : mH} : ∀ (V C : List (Nat × Nat)) (h : mH), mFr2 aMd h0 h → mdS h t n p o C V → V.length ≤ 180 → (clV a C V).1.length ≤ 180 → (∀ c ∈ V, c.1 ≤ 14 ∧ c.2 < 1048576) → (∀ h', mFr2 aMd h0 h' → mdS h' t n p o (clV a C V).1 (clV a C V).2 → Q none h') → mW G kX12_closesSums (d + 1) b 0 [some (.inr (some 47)), some (.inl (b2i a))] [] h Q
  | [], C, h, f0, R, _, hl, hb, K => by
    have T := fun (Q : Option mV → mH → Prop) K => m_topI (G := G) (d := d) (b := (0, 0)) (Q := Q) R (by simp) hb K
    have KK := K h f0 R
    refine qX12_closesSums_0 _ R.1 (T _ ⟨_, rfl, R.1, fun _ => ⟨fun _ => KK, fun _ => T _ ⟨_, rfl, R.1, fun z => absurd z (by decide), fun _ => T _ ⟨_, rfl, R.1, fun _ => KK, fun z => absurd z (by decide)⟩⟩⟩, fun z => absurd (by decide) z⟩)
  | c :: V, C, h, f0, R, hv, hl, hb, K => by
    have hv' : V.length + 1 ≤ 180 := hv
    have T := fun (Q : Option mV → mH → Prop) K => m_topI (G := G) (d := d) (b := (0, 0)) (Q := Q) R (by show V.length + 1 ≤ 180; omega) hb K
    obtain ⟨o1, o2, o3, o4⟩ := ops_c c.1 (hb c (by simp)).1
    have et : tpI (c :: V) = nI c.1 := rfl
    -- it is put
    have go : ((4 ≤ c.1 ∧ c.1 ≤ 6) ∨ (a = true ∧ (c.1 = 2 ∨ c.1 = 3))) → mC G kX12_top d (0, 0) [.inr (some 47)] h (fun r h5 => ∃ x6, r = some (.inl x6) ∧ mSk h5 ∧ mC G kX12_notes d (0, 0) [.inr (some 47), .inl x6, .inl 0] h5 (fun r h7 => r = none ∧ mSk h7 ∧ ∀ h8, h8 = mSI h7 47 18 ((mI h7 47 18) - 1) → mW G kX12_closesSums (d + 1) b 0 [some (.inr (some 47)), some (.inl (b2i a))] [] h8 Q)) := by
      intro z
      have ec : clV a C (c :: V) = clV a (C ++ [(c.1, 0)]) V := by
        conv => lhs; unfold clV
        rw [if_pos z]
      rw [ec] at K hl
      have hl2 := clV_l a V (C ++ [(c.1, 0)])
      have hl3 : (C ++ [(c.1, 0)]).length = C.length + 1 := by simp
      refine T _ ⟨_, rfl, R.1, ?_⟩
      refine m_notesC (op := c.1) (v := 0) R (by omega) (fun h7 f7 R7 => ⟨rfl, R7.1, fun h8 e8 => ?_⟩)
      obtain ⟨f8, R8⟩ := R7.pop e8
      refine m_closesSums a V (C ++ [(c.1, 0)]) h8 ((f0.tr (f7.wk (fun a k z => by unfold aMd; omega))).tr (f8.wk (fun a k z => by unfold aMd; omega))) R8 (by omega) hl (fun c' hc' => hb c' (by simp [hc'])) K
    -- nothing more is put
    have no : ¬ ((4 ≤ c.1 ∧ c.1 ≤ 6) ∨ (a = true ∧ (c.1 = 2 ∨ c.1 = 3))) → Q none h := by
      intro z
      have ec : clV a C (c :: V) = (C, c :: V) := by
        conv => lhs; unfold clV
        rw [if_neg z]
      rw [ec] at K
      exact K h f0 R
    have a0 : b2i a = 0 ↔ a = false := b2i_0
    refine qX12_closesSums_0 _ R.1 (T _ ⟨_, rfl, R.1, fun z => ⟨fun u => no (fun w => ?_), fun u => T _ ⟨_, rfl, R.1, fun w => go ?_, fun w => T _ ⟨_, rfl, R.1, fun y => no (fun x => ?_), fun y => go ?_⟩⟩⟩, fun z => T _ ⟨_, rfl, R.1, fun w => go ?_, fun w => ⟨fun u => no (fun x => ?_), fun u => T _ ⟨_, rfl, R.1, fun y => ?_, fun y => T _ ⟨_, rfl, R.1, fun x => no (fun s => ?_), fun x => ?_⟩⟩⟩⟩⟩)
    · rw [et, o1] at z; rw [a0] at u; rw [u] at w; simp at w; omega
    · rw [et, o3] at w; rw [a0] at u; exact Or.inr ⟨by revert u; cases a <;> simp, Or.inl w⟩
    · rw [et, o1] at z; rw [et, o3] at w; rw [et, o4] at y; omega
    · rw [et, o4] at y; rw [a0] at u; exact Or.inr ⟨by revert u; cases a <;> simp, Or.inr y⟩
    · rw [et, o1] at z; rw [et, o2] at w; exact Or.inl ⟨by omega, w⟩
    · rw [et, o1] at z; rw [et, o2] at w; omega
    · rw [et, o1] at z; rw [et, o3] at y; omega
    · rw [et, o1] at z; rw [et, o2] at w; omega
    · rw [et, o1] at z; rw [et, o4] at x; omega
end
